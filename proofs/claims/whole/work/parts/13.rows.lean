-- FuseMinutes$Rows.forget(I)V
theorem dX4_forget_0 : decode cX4_forget 0 = .ok (.aload_n 0, 1) := by decide +kernel
theorem dX4_forget_1 : decode cX4_forget 1 = .ok (.iconst 0, 1) := by decide +kernel
theorem dX4_forget_2 : decode cX4_forget 2 = .ok (.putfield 31, 3) := by decide +kernel
theorem dX4_forget_5 : decode cX4_forget 5 = .ok (.iconst 0, 1) := by decide +kernel
theorem dX4_forget_6 : decode cX4_forget 6 = .ok (.istore_n 2, 1) := by decide +kernel
theorem dX4_forget_7 : decode cX4_forget 7 = .ok (.iload_n 2, 1) := by decide +kernel
theorem dX4_forget_8 : decode cX4_forget 8 = .ok (.bipush 16, 2) := by decide +kernel
theorem dX4_forget_10 : decode cX4_forget 10 = .ok (.if_icmp .ge 31, 3) := by decide +kernel
theorem dX4_forget_13 : decode cX4_forget 13 = .ok (.iload_n 2, 1) := by decide +kernel
theorem dX4_forget_14 : decode cX4_forget 14 = .ok (.iload_n 1, 1) := by decide +kernel
theorem dX4_forget_15 : decode cX4_forget 15 = .ok (.ishr, 1) := by decide +kernel
theorem dX4_forget_16 : decode cX4_forget 16 = .ok (.iconst 1, 1) := by decide +kernel
theorem dX4_forget_17 : decode cX4_forget 17 = .ok (.iand, 1) := by decide +kernel
theorem dX4_forget_18 : decode cX4_forget 18 = .ok (.ifCond .eq 17, 3) := by decide +kernel
theorem dX4_forget_21 : decode cX4_forget 21 = .ok (.aload_n 0, 1) := by decide +kernel
theorem dX4_forget_22 : decode cX4_forget 22 = .ok (.dup, 1) := by decide +kernel
theorem dX4_forget_23 : decode cX4_forget 23 = .ok (.getfield 35, 3) := by decide +kernel
theorem dX4_forget_26 : decode cX4_forget 26 = .ok (.iconst 1, 1) := by decide +kernel
theorem dX4_forget_27 : decode cX4_forget 27 = .ok (.iload_n 2, 1) := by decide +kernel
theorem dX4_forget_28 : decode cX4_forget 28 = .ok (.ishl, 1) := by decide +kernel
theorem dX4_forget_29 : decode cX4_forget 29 = .ok (.iconst (-1), 1) := by decide +kernel
theorem dX4_forget_30 : decode cX4_forget 30 = .ok (.ixor, 1) := by decide +kernel
theorem dX4_forget_31 : decode cX4_forget 31 = .ok (.iand, 1) := by decide +kernel
theorem dX4_forget_32 : decode cX4_forget 32 = .ok (.putfield 35, 3) := by decide +kernel
theorem dX4_forget_35 : decode cX4_forget 35 = .ok (.iinc 2 1, 3) := by decide +kernel
theorem dX4_forget_38 : decode cX4_forget 38 = .ok (.goto (-31), 3) := by decide +kernel
theorem dX4_forget_41 : decode cX4_forget 41 = .ok (.return_, 1) := by decide +kernel
def Rw_forget_35 (k7 : Int32 → Int32 → Nm → Option Nm) (x1 : Int32) (x2 : Int32) (ν : Nm) : Option Nm :=
  k7 x1 (x2 + (1 : Int32)) ν
set_option maxRecDepth 100000 in
set_option maxHeartbeats 4000000 in
theorem t_Rw_forget_35 {g : GG} {d : Nat} (hd0 : 1 ≤ d) {k7 : Int32 → Int32 → Nm → Option Nm} (hk7 : ∀ (x1 : Int32) (x2 : Int32) (ν : Nm) (r : Nm), k7 x1 x2 ν = some r → Z g d (0, 0) mX4_forget 333 0 0 7 [(0, .ref 276), (1, .int x1), (2, .int x2)] [] (zem ν) (zF g (none, zem r))) : ∀ (x1 : Int32) (x2 : Int32) (ν : Nm) (r : Nm), Rw_forget_35 k7 x1 x2 ν = some r → Z g d (0, 0) mX4_forget 333 0 0 35 [(0, .ref 276), (1, .int x1), (2, .int x2)] [] (zem ν) (zF g (none, zem r)) := by
  intro x1 x2 ν r h
  unfold Rw_forget_35 at h
  refine z_iinc (M := mX4_forget) (v := (x2 + (1 : Int32))) (lv2 := [(2, .int (x2 + (1 : Int32))), (0, .ref 276), (1, .int x1)]) dX4_forget_35 2 rfl rfl (Nat.le_of_ble_eq_true rfl) rfl ?_
  refine z_goto 7 dX4_forget_38 rfl ?_
  refine z_lv (lv2 := [(0, .ref 276), (1, .int x1), (2, .int (x2 + (1 : Int32)))]) [1, 2, 0] rfl ?_
  exact hk7 x1 (x2 + (1 : Int32)) ν _ h
def Rw_forget_7 : Nat → Int32 → Int32 → Nm → Option Nm
  | 0, _, _, _ => none
  | f + 1, x1, x2, ν =>
    (if (16 : Int32) ≤ x2 then
      some ν
    else
      (if ((x2 >>> (x1 &&& 31)) &&& (1 : Int32)) = 0 then
        Rw_forget_35 (Rw_forget_7 f) x1 x2 ν
      else
        Rw_forget_35 (Rw_forget_7 f) x1 x2 (si ν 276 4 ((gi ν 276 4) &&& (((1 : Int32) <<< (x2 &&& 31)) ^^^ (-1 : Int32))))))
set_option maxRecDepth 100000 in
set_option maxHeartbeats 4000000 in
theorem t_Rw_forget_7 {g : GG} {d : Nat} (hd0 : 1 ≤ d) : ∀ (f : Nat), ∀ (x1 : Int32) (x2 : Int32) (ν : Nm) (r : Nm), Rw_forget_7 f x1 x2 ν = some r → Z g d (0, 0) mX4_forget 333 0 0 7 [(0, .ref 276), (1, .int x1), (2, .int x2)] [] (zem ν) (zF g (none, zem r)) := by
  intro f
  induction f with
  | zero =>
    intro x1 x2 ν r h
    cases h
  | succ f ih =>
    intro x1 x2 ν r h
    rw [Rw_forget_7] at h
    refine z_iload_n dX4_forget_7 2 rfl ?_
    refine z_bipush (M := mX4_forget) (v := 16) dX4_forget_8 rfl ?_
    refine z_icmp_ge 41 dX4_forget_10 rfl (fun hc1 => ?_) (fun hc1 => ?_)
    · replace h := oT hc1 h
      cases h
      exact z_vret dX4_forget_41 rfl
    · replace h := oF hc1 h
      refine z_iload_n dX4_forget_13 2 rfl ?_
      refine z_iload_n dX4_forget_14 1 rfl ?_
      refine z_ishr dX4_forget_15 ?_
      refine z_iconst (M := mX4_forget) (v := 1) dX4_forget_16 rfl ?_
      refine z_iand dX4_forget_17 ?_
      refine z_if_eq 35 dX4_forget_18 rfl (fun hc2 => ?_) (fun hc2 => ?_)
      · replace h := oT hc2 h
        exact t_Rw_forget_35 hd0 ih x1 x2 ν _ h
      · replace h := oF hc2 h
        refine z_aload_n dX4_forget_21 0 rfl ?_
        refine z_dup dX4_forget_22 rfl ?_
        refine y_getI dX4_forget_23 zk_276 flRX4_35 ?_
        refine z_iconst (M := mX4_forget) (v := 1) dX4_forget_26 rfl ?_
        refine z_iload_n dX4_forget_27 2 rfl ?_
        refine z_ishl dX4_forget_28 ?_
        refine z_iconst (M := mX4_forget) (v := -1) dX4_forget_29 rfl ?_
        refine z_ixor dX4_forget_30 ?_
        refine z_iand dX4_forget_31 ?_
        refine y_putI dX4_forget_32 zk_276 flRX4_35 ⟨rfl, rfl⟩ ?_
        exact t_Rw_forget_35 hd0 ih x1 x2 (si ν 276 4 ((gi ν 276 4) &&& (((1 : Int32) <<< (x2 &&& 31)) ^^^ (-1 : Int32)))) _ h
def Rw_forget (x1 : Int32) (ν : Nm) : Option Nm :=
  Rw_forget_7 FU x1 (0 : Int32) (si ν 276 5 (0 : Int32))
set_option maxRecDepth 100000 in
set_option maxHeartbeats 4000000 in
theorem t_Rw_forget {g : GG} {d : Nat} (hd0 : 1 ≤ d) : ∀ (x1 : Int32) (ν : Nm) (r : Nm), Rw_forget x1 ν = some r → Z g d (0, 0) mX4_forget 333 0 0 0 [(0, .ref 276), (1, .int x1)] [] (zem ν) (zF g (none, zem r)) := by
  intro x1 ν r h
  unfold Rw_forget at h
  refine z_aload_n dX4_forget_0 0 rfl ?_
  refine z_iconst (M := mX4_forget) (v := 0) dX4_forget_1 rfl ?_
  refine y_putI dX4_forget_2 zk_276 flRX4_31 ⟨rfl, rfl⟩ ?_
  refine z_iconst (M := mX4_forget) (v := 0) dX4_forget_5 rfl ?_
  refine z_istore_n (M := mX4_forget) (lv2 := [(2, .int (0 : Int32)), (0, .ref 276), (1, .int x1)]) dX4_forget_6 (Nat.le_of_ble_eq_true rfl) rfl ?_
  refine z_lv (lv2 := [(0, .ref 276), (1, .int x1), (2, .int (0 : Int32))]) [1, 2, 0] rfl ?_
  exact t_Rw_forget_7 hd0 FU x1 (0 : Int32) (si ν 276 5 (0 : Int32)) _ h
theorem ct_Rw_forget {g : GG} {d : Nat} {x1 : Int32} {ν : Nm} {r : Nm} (hd0 : 1 ≤ d)  (h : Rw_forget x1 ν = some r) : Ct g d mX4_forget [.ref 276, .int x1] (zem ν) (none, zem r) := y_entry in_X4_forget (Nat.le_of_ble_eq_true rfl) rfl (t_Rw_forget hd0 x1 ν r h)
-- FuseMinutes$Rows.begin(III)V
theorem dX4_begin_0 : decode cX4_begin 0 = .ok (.aload_n 0, 1) := by decide +kernel
theorem dX4_begin_1 : decode cX4_begin 1 = .ok (.iconst 0, 1) := by decide +kernel
theorem dX4_begin_2 : decode cX4_begin 2 = .ok (.putfield 31, 3) := by decide +kernel
theorem dX4_begin_5 : decode cX4_begin 5 = .ok (.aload_n 0, 1) := by decide +kernel
theorem dX4_begin_6 : decode cX4_begin 6 = .ok (.iload_n 1, 1) := by decide +kernel
theorem dX4_begin_7 : decode cX4_begin 7 = .ok (.putfield 82, 3) := by decide +kernel
theorem dX4_begin_10 : decode cX4_begin 10 = .ok (.aload_n 0, 1) := by decide +kernel
theorem dX4_begin_11 : decode cX4_begin 11 = .ok (.iload_n 2, 1) := by decide +kernel
theorem dX4_begin_12 : decode cX4_begin 12 = .ok (.putfield 85, 3) := by decide +kernel
theorem dX4_begin_15 : decode cX4_begin 15 = .ok (.aload_n 0, 1) := by decide +kernel
theorem dX4_begin_16 : decode cX4_begin 16 = .ok (.iload_n 3, 1) := by decide +kernel
theorem dX4_begin_17 : decode cX4_begin 17 = .ok (.putfield 88, 3) := by decide +kernel
theorem dX4_begin_20 : decode cX4_begin 20 = .ok (.aload_n 0, 1) := by decide +kernel
theorem dX4_begin_21 : decode cX4_begin 21 = .ok (.getfield 25, 3) := by decide +kernel
theorem dX4_begin_24 : decode cX4_begin 24 = .ok (.iconst 0, 1) := by decide +kernel
theorem dX4_begin_25 : decode cX4_begin 25 = .ok (.iconst 0, 1) := by decide +kernel
theorem dX4_begin_26 : decode cX4_begin 26 = .ok (.iastore, 1) := by decide +kernel
theorem dX4_begin_27 : decode cX4_begin 27 = .ok (.iconst 0, 1) := by decide +kernel
theorem dX4_begin_28 : decode cX4_begin 28 = .ok (.istore 4, 2) := by decide +kernel
theorem dX4_begin_30 : decode cX4_begin 30 = .ok (.iload 4, 2) := by decide +kernel
theorem dX4_begin_32 : decode cX4_begin 32 = .ok (.iconst 4, 1) := by decide +kernel
theorem dX4_begin_33 : decode cX4_begin 33 = .ok (.if_icmp .ge 47, 3) := by decide +kernel
theorem dX4_begin_36 : decode cX4_begin 36 = .ok (.aload_n 0, 1) := by decide +kernel
theorem dX4_begin_37 : decode cX4_begin 37 = .ok (.getfield 15, 3) := by decide +kernel
theorem dX4_begin_40 : decode cX4_begin 40 = .ok (.iload 4, 2) := by decide +kernel
theorem dX4_begin_42 : decode cX4_begin 42 = .ok (.iload_n 1, 1) := by decide +kernel
theorem dX4_begin_43 : decode cX4_begin 43 = .ok (.iload 4, 2) := by decide +kernel
theorem dX4_begin_45 : decode cX4_begin 45 = .ok (.ishr, 1) := by decide +kernel
theorem dX4_begin_46 : decode cX4_begin 46 = .ok (.iconst 1, 1) := by decide +kernel
theorem dX4_begin_47 : decode cX4_begin 47 = .ok (.iand, 1) := by decide +kernel
theorem dX4_begin_48 : decode cX4_begin 48 = .ok (.ifCond .eq 16, 3) := by decide +kernel
theorem dX4_begin_51 : decode cX4_begin 51 = .ok (.aload_n 0, 1) := by decide +kernel
theorem dX4_begin_52 : decode cX4_begin 52 = .ok (.getfield 28, 3) := by decide +kernel
theorem dX4_begin_55 : decode cX4_begin 55 = .ok (.iload 4, 2) := by decide +kernel
theorem dX4_begin_57 : decode cX4_begin 57 = .ok (.iaload, 1) := by decide +kernel
theorem dX4_begin_58 : decode cX4_begin 58 = .ok (.bipush 64, 2) := by decide +kernel
theorem dX4_begin_60 : decode cX4_begin 60 = .ok (.imul, 1) := by decide +kernel
theorem dX4_begin_61 : decode cX4_begin 61 = .ok (.goto 4, 3) := by decide +kernel
theorem dX4_begin_64 : decode cX4_begin 64 = .ok (.iconst 0, 1) := by decide +kernel
theorem dX4_begin_65 : decode cX4_begin 65 = .ok (.iastore, 1) := by decide +kernel
theorem dX4_begin_66 : decode cX4_begin 66 = .ok (.aload_n 0, 1) := by decide +kernel
theorem dX4_begin_67 : decode cX4_begin 67 = .ok (.getfield 19, 3) := by decide +kernel
theorem dX4_begin_70 : decode cX4_begin 70 = .ok (.iload 4, 2) := by decide +kernel
theorem dX4_begin_72 : decode cX4_begin 72 = .ok (.iconst 0, 1) := by decide +kernel
theorem dX4_begin_73 : decode cX4_begin 73 = .ok (.iastore, 1) := by decide +kernel
theorem dX4_begin_74 : decode cX4_begin 74 = .ok (.iinc 4 1, 3) := by decide +kernel
theorem dX4_begin_77 : decode cX4_begin 77 = .ok (.goto (-47), 3) := by decide +kernel
theorem dX4_begin_80 : decode cX4_begin 80 = .ok (.return_, 1) := by decide +kernel
def Rw_begin_65 (k30 : Int32 → Int32 → Nm → Option Nm) (x1 : Int32) (x4 : Int32) (s0 : Int32) (s1 : Int32) (ν : Nm) : Option Nm :=
  if inb s1 20 then
  if inb x4 20 then
  k30 x1 (x4 + (1 : Int32)) (si (si ν 278 s1.toNatClampNeg s0) 279 x4.toNatClampNeg (0 : Int32))
  else none
  else none
set_option maxRecDepth 100000 in
set_option maxHeartbeats 4000000 in
theorem t_Rw_begin_65 {g : GG} {d : Nat} (hd0 : 1 ≤ d) {k30 : Int32 → Int32 → Nm → Option Nm} (hk30 : ∀ (x1 : Int32) (x4 : Int32) (ν : Nm) (r : Nm), k30 x1 x4 ν = some r → Z g d (0, 0) mX4_begin 333 0 0 30 [(0, .ref 276), (1, .int x1), (4, .int x4)] [] (zem ν) (zF g (none, zem r))) : ∀ (x1 : Int32) (x4 : Int32) (s0 : Int32) (s1 : Int32) (ν : Nm) (r : Nm), Rw_begin_65 k30 x1 x4 s0 s1 ν = some r → Z g d (0, 0) mX4_begin 333 0 0 65 [(0, .ref 276), (1, .int x1), (4, .int x4)] [.int s0, .int s1, .ref 278] (zem ν) (zF g (none, zem r)) := by
  intro x1 x4 s0 s1 ν r h
  unfold Rw_begin_65 at h
  obtain ⟨hi1, h⟩ := oif h
  refine y_iast (M := mX4_begin) (jj := s1.toNatClampNeg) dX4_begin_65 zk_278 hi1 rfl ?_
  refine z_aload_n dX4_begin_66 0 rfl ?_
  refine y_getR (M := mX4_begin) (r := 279) dX4_begin_67 zk_276 flRX4_19 fr_3_8.1 (fr_3_8.2 _) ?_
  refine z_iload dX4_begin_70 2 rfl ?_
  refine z_iconst (M := mX4_begin) (v := 0) dX4_begin_72 rfl ?_
  obtain ⟨hi2, h⟩ := oif h
  refine y_iast (M := mX4_begin) (jj := x4.toNatClampNeg) dX4_begin_73 zk_279 hi2 rfl ?_
  refine z_iinc (M := mX4_begin) (v := (x4 + (1 : Int32))) (lv2 := [(4, .int (x4 + (1 : Int32))), (0, .ref 276), (1, .int x1)]) dX4_begin_74 2 rfl rfl (Nat.le_of_ble_eq_true rfl) rfl ?_
  refine z_goto 30 dX4_begin_77 rfl ?_
  refine z_lv (lv2 := [(0, .ref 276), (1, .int x1), (4, .int (x4 + (1 : Int32)))]) [1, 2, 0] rfl ?_
  exact hk30 x1 (x4 + (1 : Int32)) (si (si ν 278 s1.toNatClampNeg s0) 279 x4.toNatClampNeg (0 : Int32)) _ h
def Rw_begin_30 : Nat → Int32 → Int32 → Nm → Option Nm
  | 0, _, _, _ => none
  | f + 1, x1, x4, ν =>
    (if (4 : Int32) ≤ x4 then
      some ν
    else
      (if ((x1 >>> (x4 &&& 31)) &&& (1 : Int32)) = 0 then
        Rw_begin_65 (Rw_begin_30 f) x1 x4 (0 : Int32) x4 ν
      else
        if inb x4 4 then
        Rw_begin_65 (Rw_begin_30 f) x1 x4 ((gi ν 128 x4.toNatClampNeg) * (64 : Int32)) x4 ν
        else none))
set_option maxRecDepth 100000 in
set_option maxHeartbeats 4000000 in
theorem t_Rw_begin_30 {g : GG} {d : Nat} (hd0 : 1 ≤ d) : ∀ (f : Nat), ∀ (x1 : Int32) (x4 : Int32) (ν : Nm) (r : Nm), Rw_begin_30 f x1 x4 ν = some r → Z g d (0, 0) mX4_begin 333 0 0 30 [(0, .ref 276), (1, .int x1), (4, .int x4)] [] (zem ν) (zF g (none, zem r)) := by
  intro f
  induction f with
  | zero =>
    intro x1 x4 ν r h
    cases h
  | succ f ih =>
    intro x1 x4 ν r h
    rw [Rw_begin_30] at h
    refine z_iload dX4_begin_30 2 rfl ?_
    refine z_iconst (M := mX4_begin) (v := 4) dX4_begin_32 rfl ?_
    refine z_icmp_ge 80 dX4_begin_33 rfl (fun hc1 => ?_) (fun hc1 => ?_)
    · replace h := oT hc1 h
      cases h
      exact z_vret dX4_begin_80 rfl
    · replace h := oF hc1 h
      refine z_aload_n dX4_begin_36 0 rfl ?_
      refine y_getR (M := mX4_begin) (r := 278) dX4_begin_37 zk_276 flRX4_15 fr_3_7.1 (fr_3_7.2 _) ?_
      refine z_iload dX4_begin_40 2 rfl ?_
      refine z_iload_n dX4_begin_42 1 rfl ?_
      refine z_iload dX4_begin_43 2 rfl ?_
      refine z_ishr dX4_begin_45 ?_
      refine z_iconst (M := mX4_begin) (v := 1) dX4_begin_46 rfl ?_
      refine z_iand dX4_begin_47 ?_
      refine z_if_eq 64 dX4_begin_48 rfl (fun hc2 => ?_) (fun hc2 => ?_)
      · replace h := oT hc2 h
        refine z_iconst (M := mX4_begin) (v := 0) dX4_begin_64 rfl ?_
        exact t_Rw_begin_65 hd0 ih x1 x4 (0 : Int32) x4 ν _ h
      · replace h := oF hc2 h
        refine z_aload_n dX4_begin_51 0 rfl ?_
        refine y_getR (M := mX4_begin) (r := 128) dX4_begin_52 zk_276 flRX4_28 fr_3_0.1 (fr_3_0.2 _) ?_
        refine z_iload dX4_begin_55 2 rfl ?_
        obtain ⟨hi3, h⟩ := oif h
        refine y_iald (M := mX4_begin) (jj := x4.toNatClampNeg) dX4_begin_57 zk_128 hi3 rfl ?_
        refine z_bipush (M := mX4_begin) (v := 64) dX4_begin_58 rfl ?_
        refine z_imul dX4_begin_60 ?_
        refine z_goto 65 dX4_begin_61 rfl ?_
        exact t_Rw_begin_65 hd0 ih x1 x4 ((gi ν 128 x4.toNatClampNeg) * (64 : Int32)) x4 ν _ h
def Rw_begin (x1 : Int32) (x2 : Int32) (x3 : Int32) (ν : Nm) : Option Nm :=
  Rw_begin_30 FU x1 (0 : Int32) (si (si (si (si (si ν 276 5 (0 : Int32)) 276 11 x1) 276 12 x2) 276 13 x3) 281 0 (0 : Int32))
set_option maxRecDepth 100000 in
set_option maxHeartbeats 4000000 in
theorem t_Rw_begin {g : GG} {d : Nat} (hd0 : 1 ≤ d) : ∀ (x1 : Int32) (x2 : Int32) (x3 : Int32) (ν : Nm) (r : Nm), Rw_begin x1 x2 x3 ν = some r → Z g d (0, 0) mX4_begin 333 0 0 0 [(0, .ref 276), (1, .int x1), (2, .int x2), (3, .int x3)] [] (zem ν) (zF g (none, zem r)) := by
  intro x1 x2 x3 ν r h
  unfold Rw_begin at h
  refine z_aload_n dX4_begin_0 0 rfl ?_
  refine z_iconst (M := mX4_begin) (v := 0) dX4_begin_1 rfl ?_
  refine y_putI dX4_begin_2 zk_276 flRX4_31 ⟨rfl, rfl⟩ ?_
  refine z_aload_n dX4_begin_5 0 rfl ?_
  refine z_iload_n dX4_begin_6 1 rfl ?_
  refine y_putI dX4_begin_7 zk_276 flRX4_82 ⟨rfl, rfl⟩ ?_
  refine z_aload_n dX4_begin_10 0 rfl ?_
  refine z_iload_n dX4_begin_11 2 rfl ?_
  refine y_putI dX4_begin_12 zk_276 flRX4_85 ⟨rfl, rfl⟩ ?_
  refine z_aload_n dX4_begin_15 0 rfl ?_
  refine z_iload_n dX4_begin_16 3 rfl ?_
  refine y_putI dX4_begin_17 zk_276 flRX4_88 ⟨rfl, rfl⟩ ?_
  refine z_aload_n dX4_begin_20 0 rfl ?_
  refine y_getR (M := mX4_begin) (r := 281) dX4_begin_21 zk_276 flRX4_25 fr_3_10.1 (fr_3_10.2 _) ?_
  refine z_iconst (M := mX4_begin) (v := 0) dX4_begin_24 rfl ?_
  refine z_iconst (M := mX4_begin) (v := 0) dX4_begin_25 rfl ?_
  refine y_iast (M := mX4_begin) (jj := 0) dX4_begin_26 zk_281 rfl rfl ?_
  refine z_iconst (M := mX4_begin) (v := 0) dX4_begin_27 rfl ?_
  refine z_istore (M := mX4_begin) (lv2 := [(4, .int (0 : Int32)), (0, .ref 276), (1, .int x1), (2, .int x2), (3, .int x3)]) dX4_begin_28 (Nat.le_of_ble_eq_true rfl) rfl ?_
  refine z_lv (lv2 := [(0, .ref 276), (1, .int x1), (4, .int (0 : Int32))]) [1, 2, 0] rfl ?_
  exact t_Rw_begin_30 hd0 FU x1 (0 : Int32) (si (si (si (si (si ν 276 5 (0 : Int32)) 276 11 x1) 276 12 x2) 276 13 x3) 281 0 (0 : Int32)) _ h
theorem ct_Rw_begin {g : GG} {d : Nat} {x1 : Int32} {x2 : Int32} {x3 : Int32} {ν : Nm} {r : Nm} (hd0 : 1 ≤ d)  (h : Rw_begin x1 x2 x3 ν = some r) : Ct g d mX4_begin [.ref 276, .int x1, .int x2, .int x3] (zem ν) (none, zem r) := y_entry in_X4_begin (Nat.le_of_ble_eq_true rfl) rfl (t_Rw_begin hd0 x1 x2 x3 ν r h)
-- FuseMinutes$Rows.arrive(I)Z
theorem dX4_arrive_0 : decode cX4_arrive 0 = .ok (.iconst 0, 1) := by decide +kernel
theorem dX4_arrive_1 : decode cX4_arrive 1 = .ok (.istore_n 2, 1) := by decide +kernel
theorem dX4_arrive_2 : decode cX4_arrive 2 = .ok (.iload_n 2, 1) := by decide +kernel
theorem dX4_arrive_3 : decode cX4_arrive 3 = .ok (.iload_n 1, 1) := by decide +kernel
theorem dX4_arrive_4 : decode cX4_arrive 4 = .ok (.if_icmp .ge 96, 3) := by decide +kernel
theorem dX4_arrive_7 : decode cX4_arrive 7 = .ok (.aload_n 0, 1) := by decide +kernel
theorem dX4_arrive_8 : decode cX4_arrive 8 = .ok (.getfield 25, 3) := by decide +kernel
theorem dX4_arrive_11 : decode cX4_arrive 11 = .ok (.iload_n 1, 1) := by decide +kernel
theorem dX4_arrive_12 : decode cX4_arrive 12 = .ok (.iaload, 1) := by decide +kernel
theorem dX4_arrive_13 : decode cX4_arrive 13 = .ok (.aload_n 0, 1) := by decide +kernel
theorem dX4_arrive_14 : decode cX4_arrive 14 = .ok (.getfield 25, 3) := by decide +kernel
theorem dX4_arrive_17 : decode cX4_arrive 17 = .ok (.iload_n 2, 1) := by decide +kernel
theorem dX4_arrive_18 : decode cX4_arrive 18 = .ok (.iaload, 1) := by decide +kernel
theorem dX4_arrive_19 : decode cX4_arrive 19 = .ok (.isub, 1) := by decide +kernel
theorem dX4_arrive_20 : decode cX4_arrive 20 = .ok (.istore_n 3, 1) := by decide +kernel
theorem dX4_arrive_21 : decode cX4_arrive 21 = .ok (.iload_n 3, 1) := by decide +kernel
theorem dX4_arrive_22 : decode cX4_arrive 22 = .ok (.ifCond .le 10, 3) := by decide +kernel
theorem dX4_arrive_25 : decode cX4_arrive 25 = .ok (.iload_n 3, 1) := by decide +kernel
theorem dX4_arrive_26 : decode cX4_arrive 26 = .ok (.sipush 15360, 3) := by decide +kernel
theorem dX4_arrive_29 : decode cX4_arrive 29 = .ok (.if_icmp .le 5, 3) := by decide +kernel
theorem dX4_arrive_32 : decode cX4_arrive 32 = .ok (.iconst 0, 1) := by decide +kernel
theorem dX4_arrive_33 : decode cX4_arrive 33 = .ok (.ireturn, 1) := by decide +kernel
theorem dX4_arrive_34 : decode cX4_arrive 34 = .ok (.aload_n 0, 1) := by decide +kernel
theorem dX4_arrive_35 : decode cX4_arrive 35 = .ok (.getfield 85, 3) := by decide +kernel
theorem dX4_arrive_38 : decode cX4_arrive 38 = .ok (.ifCond .ne 33, 3) := by decide +kernel
theorem dX4_arrive_41 : decode cX4_arrive 41 = .ok (.aload_n 0, 1) := by decide +kernel
theorem dX4_arrive_42 : decode cX4_arrive 42 = .ok (.getfield 9, 3) := by decide +kernel
theorem dX4_arrive_45 : decode cX4_arrive 45 = .ok (.aload_n 0, 1) := by decide +kernel
theorem dX4_arrive_46 : decode cX4_arrive 46 = .ok (.getfield 82, 3) := by decide +kernel
theorem dX4_arrive_49 : decode cX4_arrive 49 = .ok (.sipush 241, 3) := by decide +kernel
theorem dX4_arrive_52 : decode cX4_arrive 52 = .ok (.imul, 1) := by decide +kernel
theorem dX4_arrive_53 : decode cX4_arrive 53 = .ok (.iload_n 3, 1) := by decide +kernel
theorem dX4_arrive_54 : decode cX4_arrive 54 = .ok (.bipush 64, 2) := by decide +kernel
theorem dX4_arrive_56 : decode cX4_arrive 56 = .ok (.idiv, 1) := by decide +kernel
theorem dX4_arrive_57 : decode cX4_arrive 57 = .ok (.iadd, 1) := by decide +kernel
theorem dX4_arrive_58 : decode cX4_arrive 58 = .ok (.dup2, 1) := by decide +kernel
theorem dX4_arrive_59 : decode cX4_arrive 59 = .ok (.laload, 1) := by decide +kernel
theorem dX4_arrive_60 : decode cX4_arrive 60 = .ok (.lconst 1, 1) := by decide +kernel
theorem dX4_arrive_61 : decode cX4_arrive 61 = .ok (.iload_n 3, 1) := by decide +kernel
theorem dX4_arrive_62 : decode cX4_arrive 62 = .ok (.bipush 64, 2) := by decide +kernel
theorem dX4_arrive_64 : decode cX4_arrive 64 = .ok (.irem, 1) := by decide +kernel
theorem dX4_arrive_65 : decode cX4_arrive 65 = .ok (.lshl, 1) := by decide +kernel
theorem dX4_arrive_66 : decode cX4_arrive 66 = .ok (.lor, 1) := by decide +kernel
theorem dX4_arrive_67 : decode cX4_arrive 67 = .ok (.lastore, 1) := by decide +kernel
theorem dX4_arrive_68 : decode cX4_arrive 68 = .ok (.goto 26, 3) := by decide +kernel
theorem dX4_arrive_71 : decode cX4_arrive 71 = .ok (.iload_n 1, 1) := by decide +kernel
theorem dX4_arrive_72 : decode cX4_arrive 72 = .ok (.aload_n 0, 1) := by decide +kernel
theorem dX4_arrive_73 : decode cX4_arrive 73 = .ok (.getfield 88, 3) := by decide +kernel
theorem dX4_arrive_76 : decode cX4_arrive 76 = .ok (.if_icmp .ne 18, 3) := by decide +kernel
theorem dX4_arrive_79 : decode cX4_arrive 79 = .ok (.iload_n 3, 1) := by decide +kernel
theorem dX4_arrive_80 : decode cX4_arrive 80 = .ok (.aload_n 0, 1) := by decide +kernel
theorem dX4_arrive_81 : decode cX4_arrive 81 = .ok (.getfield 85, 3) := by decide +kernel
theorem dX4_arrive_84 : decode cX4_arrive 84 = .ok (.if_icmp .ne 10, 3) := by decide +kernel
theorem dX4_arrive_87 : decode cX4_arrive 87 = .ok (.aload_n 0, 1) := by decide +kernel
theorem dX4_arrive_88 : decode cX4_arrive 88 = .ok (.iload_n 2, 1) := by decide +kernel
theorem dX4_arrive_89 : decode cX4_arrive 89 = .ok (.putfield 109, 3) := by decide +kernel
theorem dX4_arrive_92 : decode cX4_arrive 92 = .ok (.iconst 1, 1) := by decide +kernel
theorem dX4_arrive_93 : decode cX4_arrive 93 = .ok (.ireturn, 1) := by decide +kernel
theorem dX4_arrive_94 : decode cX4_arrive 94 = .ok (.iinc 2 1, 3) := by decide +kernel
theorem dX4_arrive_97 : decode cX4_arrive 97 = .ok (.goto (-95), 3) := by decide +kernel
theorem dX4_arrive_100 : decode cX4_arrive 100 = .ok (.iconst 0, 1) := by decide +kernel
theorem dX4_arrive_101 : decode cX4_arrive 101 = .ok (.ireturn, 1) := by decide +kernel
def Rw_arrive_94 (k2 : Int32 → Int32 → Nm → Option (Bool × Nm)) (x1 : Int32) (x2 : Int32) (ν : Nm) : Option (Bool × Nm) :=
  k2 x1 (x2 + (1 : Int32)) ν
set_option maxRecDepth 100000 in
set_option maxHeartbeats 4000000 in
theorem t_Rw_arrive_94 {g : GG} {d : Nat} (hd0 : 1 ≤ d) {k2 : Int32 → Int32 → Nm → Option (Bool × Nm)} (hk2 : ∀ (x1 : Int32) (x2 : Int32) (ν : Nm) (r : (Bool × Nm)), k2 x1 x2 ν = some r → Z g d (0, 0) mX4_arrive 333 0 0 2 [(0, .ref 276), (1, .int x1), (2, .int x2)] [] (zem ν) (zF g (some (.int (b2i r.1)), zem r.2))) : ∀ (x1 : Int32) (x2 : Int32) (ν : Nm) (r : (Bool × Nm)), Rw_arrive_94 k2 x1 x2 ν = some r → Z g d (0, 0) mX4_arrive 333 0 0 94 [(0, .ref 276), (1, .int x1), (2, .int x2)] [] (zem ν) (zF g (some (.int (b2i r.1)), zem r.2)) := by
  intro x1 x2 ν r h
  unfold Rw_arrive_94 at h
  refine z_iinc (M := mX4_arrive) (v := (x2 + (1 : Int32))) (lv2 := [(2, .int (x2 + (1 : Int32))), (0, .ref 276), (1, .int x1)]) dX4_arrive_94 2 rfl rfl (Nat.le_of_ble_eq_true rfl) rfl ?_
  refine z_goto 2 dX4_arrive_97 rfl ?_
  refine z_lv (lv2 := [(0, .ref 276), (1, .int x1), (2, .int (x2 + (1 : Int32)))]) [1, 2, 0] rfl ?_
  exact hk2 x1 (x2 + (1 : Int32)) ν _ h
def Rw_arrive_68 (k2 : Int32 → Int32 → Nm → Option (Bool × Nm)) (x1 : Int32) (x2 : Int32) (ν : Nm) : Option (Bool × Nm) :=
  Rw_arrive_94 k2 x1 x2 ν
set_option maxRecDepth 100000 in
set_option maxHeartbeats 4000000 in
theorem t_Rw_arrive_68 {g : GG} {d : Nat} (hd0 : 1 ≤ d) {k2 : Int32 → Int32 → Nm → Option (Bool × Nm)} (hk2 : ∀ (x1 : Int32) (x2 : Int32) (ν : Nm) (r : (Bool × Nm)), k2 x1 x2 ν = some r → Z g d (0, 0) mX4_arrive 333 0 0 2 [(0, .ref 276), (1, .int x1), (2, .int x2)] [] (zem ν) (zF g (some (.int (b2i r.1)), zem r.2))) : ∀ (x1 : Int32) (x2 : Int32) (ν : Nm) (r : (Bool × Nm)), Rw_arrive_68 k2 x1 x2 ν = some r → Z g d (0, 0) mX4_arrive 333 0 0 68 [(0, .ref 276), (1, .int x1), (2, .int x2)] [] (zem ν) (zF g (some (.int (b2i r.1)), zem r.2)) := by
  intro x1 x2 ν r h
  unfold Rw_arrive_68 at h
  refine z_goto 94 dX4_arrive_68 rfl ?_
  exact t_Rw_arrive_94 hd0 hk2 x1 x2 ν _ h
def Rw_arrive_2 : Nat → Int32 → Int32 → Nm → Option (Bool × Nm)
  | 0, _, _, _ => none
  | f + 1, x1, x2, ν =>
    (if x1 ≤ x2 then
      some (false, ν)
    else
      if inb x1 5 then
      if inb x2 5 then
      (if ((gi ν 281 x1.toNatClampNeg) - (gi ν 281 x2.toNatClampNeg)) ≤ 0 then
        some (false, ν)
      else
        (if ((gi ν 281 x1.toNatClampNeg) - (gi ν 281 x2.toNatClampNeg)) ≤ (15360 : Int32) then
          (if ¬ (gi ν 276 12) = 0 then
            (if ¬ x1 = (gi ν 276 13) then
              Rw_arrive_94 (Rw_arrive_2 f) x1 x2 ν
            else
              (if ¬ ((gi ν 281 x1.toNatClampNeg) - (gi ν 281 x2.toNatClampNeg)) = (gi ν 276 12) then
                Rw_arrive_94 (Rw_arrive_2 f) x1 x2 ν
              else
                some (true, (si ν 276 1 x2))))
          else
            if inb (((gi ν 276 11) * (241 : Int32)) + (((gi ν 281 x1.toNatClampNeg) - (gi ν 281 x2.toNatClampNeg)) / (64 : Int32))) 3856 then
            if inb (((gi ν 276 11) * (241 : Int32)) + (((gi ν 281 x1.toNatClampNeg) - (gi ν 281 x2.toNatClampNeg)) / (64 : Int32))) 3856 then
            Rw_arrive_68 (Rw_arrive_2 f) x1 x2 (sl ν 277 (((gi ν 276 11) * (241 : Int32)) + (((gi ν 281 x1.toNatClampNeg) - (gi ν 281 x2.toNatClampNeg)) / (64 : Int32))).toNatClampNeg ((gl ν 277 (((gi ν 276 11) * (241 : Int32)) + (((gi ν 281 x1.toNatClampNeg) - (gi ν 281 x2.toNatClampNeg)) / (64 : Int32))).toNatClampNeg) ||| ((1 : Int64) <<< ((((gi ν 281 x1.toNatClampNeg) - (gi ν 281 x2.toNatClampNeg)) - ((gi ν 281 x1.toNatClampNeg) - (gi ν 281 x2.toNatClampNeg)) / (64 : Int32) * (64 : Int32)).toInt64 &&& 63))))
            else none
            else none)
        else
          some (false, ν)))
      else none
      else none)
set_option maxRecDepth 100000 in
set_option maxHeartbeats 4000000 in
theorem t_Rw_arrive_2 {g : GG} {d : Nat} (hd0 : 1 ≤ d) : ∀ (f : Nat), ∀ (x1 : Int32) (x2 : Int32) (ν : Nm) (r : (Bool × Nm)), Rw_arrive_2 f x1 x2 ν = some r → Z g d (0, 0) mX4_arrive 333 0 0 2 [(0, .ref 276), (1, .int x1), (2, .int x2)] [] (zem ν) (zF g (some (.int (b2i r.1)), zem r.2)) := by
  intro f
  induction f with
  | zero =>
    intro x1 x2 ν r h
    cases h
  | succ f ih =>
    intro x1 x2 ν r h
    rw [Rw_arrive_2] at h
    refine z_iload_n dX4_arrive_2 2 rfl ?_
    refine z_iload_n dX4_arrive_3 1 rfl ?_
    refine z_icmp_ge 100 dX4_arrive_4 rfl (fun hc1 => ?_) (fun hc1 => ?_)
    · replace h := oT hc1 h
      refine z_iconst (M := mX4_arrive) (v := 0) dX4_arrive_100 rfl ?_
      cases h
      exact z_zret dX4_arrive_101 rfl rfl
    · replace h := oF hc1 h
      refine z_aload_n dX4_arrive_7 0 rfl ?_
      refine y_getR (M := mX4_arrive) (r := 281) dX4_arrive_8 zk_276 flRX4_25 fr_3_10.1 (fr_3_10.2 _) ?_
      refine z_iload_n dX4_arrive_11 1 rfl ?_
      obtain ⟨hi2, h⟩ := oif h
      refine y_iald (M := mX4_arrive) (jj := x1.toNatClampNeg) dX4_arrive_12 zk_281 hi2 rfl ?_
      refine z_aload_n dX4_arrive_13 0 rfl ?_
      refine y_getR (M := mX4_arrive) (r := 281) dX4_arrive_14 zk_276 flRX4_25 fr_3_10.1 (fr_3_10.2 _) ?_
      refine z_iload_n dX4_arrive_17 2 rfl ?_
      obtain ⟨hi3, h⟩ := oif h
      refine y_iald (M := mX4_arrive) (jj := x2.toNatClampNeg) dX4_arrive_18 zk_281 hi3 rfl ?_
      refine z_isub dX4_arrive_19 ?_
      refine z_istore_n (M := mX4_arrive) (lv2 := [(3, .int ((gi ν 281 x1.toNatClampNeg) - (gi ν 281 x2.toNatClampNeg))), (0, .ref 276), (1, .int x1), (2, .int x2)]) dX4_arrive_20 (Nat.le_of_ble_eq_true rfl) rfl ?_
      refine z_iload_n dX4_arrive_21 0 rfl ?_
      refine z_if_le 32 dX4_arrive_22 rfl (fun hc4 => ?_) (fun hc4 => ?_)
      · replace h := oT hc4 h
        refine z_iconst (M := mX4_arrive) (v := 0) dX4_arrive_32 rfl ?_
        cases h
        exact z_zret dX4_arrive_33 rfl rfl
      · replace h := oF hc4 h
        refine z_iload_n dX4_arrive_25 0 rfl ?_
        refine z_sipush (M := mX4_arrive) (v := 15360) dX4_arrive_26 rfl ?_
        refine z_icmp_le 34 dX4_arrive_29 rfl (fun hc5 => ?_) (fun hc5 => ?_)
        · replace h := oT hc5 h
          refine z_aload_n dX4_arrive_34 1 rfl ?_
          refine y_getI dX4_arrive_35 zk_276 flRX4_85 ?_
          refine z_if_ne 71 dX4_arrive_38 rfl (fun hc6 => ?_) (fun hc6 => ?_)
          · replace h := oT hc6 h
            refine z_iload_n dX4_arrive_71 2 rfl ?_
            refine z_aload_n dX4_arrive_72 1 rfl ?_
            refine y_getI dX4_arrive_73 zk_276 flRX4_88 ?_
            refine z_icmp_ne 94 dX4_arrive_76 rfl (fun hc7 => ?_) (fun hc7 => ?_)
            · replace h := oT hc7 h
              refine z_lv (lv2 := [(0, .ref 276), (1, .int x1), (2, .int x2)]) [1, 2, 3] rfl ?_
              exact t_Rw_arrive_94 hd0 ih x1 x2 ν _ h
            · replace h := oFn hc7 h
              refine z_iload_n dX4_arrive_79 0 rfl ?_
              refine z_aload_n dX4_arrive_80 1 rfl ?_
              refine y_getI dX4_arrive_81 zk_276 flRX4_85 ?_
              refine z_icmp_ne 94 dX4_arrive_84 rfl (fun hc8 => ?_) (fun hc8 => ?_)
              · replace h := oT hc8 h
                refine z_lv (lv2 := [(0, .ref 276), (1, .int x1), (2, .int x2)]) [1, 2, 3] rfl ?_
                exact t_Rw_arrive_94 hd0 ih x1 x2 ν _ h
              · replace h := oFn hc8 h
                refine z_aload_n dX4_arrive_87 1 rfl ?_
                refine z_iload_n dX4_arrive_88 3 rfl ?_
                refine y_putI dX4_arrive_89 zk_276 flRX4_109 ⟨rfl, rfl⟩ ?_
                refine z_iconst (M := mX4_arrive) (v := 1) dX4_arrive_92 rfl ?_
                cases h
                exact z_zret dX4_arrive_93 rfl rfl
          · replace h := oFn hc6 h
            refine z_aload_n dX4_arrive_41 1 rfl ?_
            refine y_getR (M := mX4_arrive) (r := 277) dX4_arrive_42 zk_276 flRX4_9 fr_3_3.1 (fr_3_3.2 _) ?_
            refine z_aload_n dX4_arrive_45 1 rfl ?_
            refine y_getI dX4_arrive_46 zk_276 flRX4_82 ?_
            refine z_sipush (M := mX4_arrive) (v := 241) dX4_arrive_49 rfl ?_
            refine z_imul dX4_arrive_52 ?_
            refine z_iload_n dX4_arrive_53 0 rfl ?_
            refine z_bipush (M := mX4_arrive) (v := 64) dX4_arrive_54 rfl ?_
            refine z_idiv dX4_arrive_56 (by decide) ?_
            refine z_iadd dX4_arrive_57 ?_
            refine z_dup2 dX4_arrive_58 rfl rfl ?_
            obtain ⟨hi9, h⟩ := oif h
            refine y_lald (M := mX4_arrive) (jj := (((gi ν 276 11) * (241 : Int32)) + (((gi ν 281 x1.toNatClampNeg) - (gi ν 281 x2.toNatClampNeg)) / (64 : Int32))).toNatClampNeg) dX4_arrive_59 zk_277 hi9 rfl ?_
            refine z_lconst (M := mX4_arrive) (v := 1) dX4_arrive_60 rfl ?_
            refine z_iload_n dX4_arrive_61 0 rfl ?_
            refine z_bipush (M := mX4_arrive) (v := 64) dX4_arrive_62 rfl ?_
            refine z_irem dX4_arrive_64 (by decide) ?_
            refine z_lshl dX4_arrive_65 ?_
            refine z_lor dX4_arrive_66 ?_
            obtain ⟨hi10, h⟩ := oif h
            refine y_last (M := mX4_arrive) (jj := (((gi ν 276 11) * (241 : Int32)) + (((gi ν 281 x1.toNatClampNeg) - (gi ν 281 x2.toNatClampNeg)) / (64 : Int32))).toNatClampNeg) dX4_arrive_67 zk_277 hi10 rfl ?_
            refine z_lv (lv2 := [(0, .ref 276), (1, .int x1), (2, .int x2)]) [1, 2, 3] rfl ?_
            exact t_Rw_arrive_68 hd0 ih x1 x2 (sl ν 277 (((gi ν 276 11) * (241 : Int32)) + (((gi ν 281 x1.toNatClampNeg) - (gi ν 281 x2.toNatClampNeg)) / (64 : Int32))).toNatClampNeg ((gl ν 277 (((gi ν 276 11) * (241 : Int32)) + (((gi ν 281 x1.toNatClampNeg) - (gi ν 281 x2.toNatClampNeg)) / (64 : Int32))).toNatClampNeg) ||| ((1 : Int64) <<< ((((gi ν 281 x1.toNatClampNeg) - (gi ν 281 x2.toNatClampNeg)) - ((gi ν 281 x1.toNatClampNeg) - (gi ν 281 x2.toNatClampNeg)) / (64 : Int32) * (64 : Int32)).toInt64 &&& 63)))) _ h
        · replace h := oF hc5 h
          refine z_iconst (M := mX4_arrive) (v := 0) dX4_arrive_32 rfl ?_
          cases h
          exact z_zret dX4_arrive_33 rfl rfl
def Rw_arrive (x1 : Int32) (ν : Nm) : Option (Bool × Nm) :=
  Rw_arrive_2 FU x1 (0 : Int32) ν
set_option maxRecDepth 100000 in
set_option maxHeartbeats 4000000 in
theorem t_Rw_arrive {g : GG} {d : Nat} (hd0 : 1 ≤ d) : ∀ (x1 : Int32) (ν : Nm) (r : (Bool × Nm)), Rw_arrive x1 ν = some r → Z g d (0, 0) mX4_arrive 333 0 0 0 [(0, .ref 276), (1, .int x1)] [] (zem ν) (zF g (some (.int (b2i r.1)), zem r.2)) := by
  intro x1 ν r h
  unfold Rw_arrive at h
  refine z_iconst (M := mX4_arrive) (v := 0) dX4_arrive_0 rfl ?_
  refine z_istore_n (M := mX4_arrive) (lv2 := [(2, .int (0 : Int32)), (0, .ref 276), (1, .int x1)]) dX4_arrive_1 (Nat.le_of_ble_eq_true rfl) rfl ?_
  refine z_lv (lv2 := [(0, .ref 276), (1, .int x1), (2, .int (0 : Int32))]) [1, 2, 0] rfl ?_
  exact t_Rw_arrive_2 hd0 FU x1 (0 : Int32) ν _ h
theorem ct_Rw_arrive {g : GG} {d : Nat} {x1 : Int32} {ν : Nm} {r : (Bool × Nm)} (hd0 : 1 ≤ d)  (h : Rw_arrive x1 ν = some r) : Ct g d mX4_arrive [.ref 276, .int x1] (zem ν) (some (.int (b2i r.1)), zem r.2) := y_entry in_X4_arrive (Nat.le_of_ble_eq_true rfl) rfl (t_Rw_arrive hd0 x1 ν r h)
-- FuseMinutes$Rows.burnOn(I)Z
theorem dX4_burnOn_0 : decode cX4_burnOn 0 = .ok (.iload_n 1, 1) := by decide +kernel
theorem dX4_burnOn_1 : decode cX4_burnOn 1 = .ok (.iconst 4, 1) := by decide +kernel
theorem dX4_burnOn_2 : decode cX4_burnOn 2 = .ok (.imul, 1) := by decide +kernel
theorem dX4_burnOn_3 : decode cX4_burnOn 3 = .ok (.istore_n 2, 1) := by decide +kernel
theorem dX4_burnOn_4 : decode cX4_burnOn 4 = .ok (.iload_n 2, 1) := by decide +kernel
theorem dX4_burnOn_5 : decode cX4_burnOn 5 = .ok (.iconst 4, 1) := by decide +kernel
theorem dX4_burnOn_6 : decode cX4_burnOn 6 = .ok (.iadd, 1) := by decide +kernel
theorem dX4_burnOn_7 : decode cX4_burnOn 7 = .ok (.istore_n 3, 1) := by decide +kernel
theorem dX4_burnOn_8 : decode cX4_burnOn 8 = .ok (.iconst 0, 1) := by decide +kernel
theorem dX4_burnOn_9 : decode cX4_burnOn 9 = .ok (.istore 4, 2) := by decide +kernel
theorem dX4_burnOn_11 : decode cX4_burnOn 11 = .ok (.iconst 0, 1) := by decide +kernel
theorem dX4_burnOn_12 : decode cX4_burnOn 12 = .ok (.istore 5, 2) := by decide +kernel
theorem dX4_burnOn_14 : decode cX4_burnOn 14 = .ok (.iload 5, 2) := by decide +kernel
theorem dX4_burnOn_16 : decode cX4_burnOn 16 = .ok (.iconst 4, 1) := by decide +kernel
theorem dX4_burnOn_17 : decode cX4_burnOn 17 = .ok (.if_icmp .ge 84, 3) := by decide +kernel
theorem dX4_burnOn_20 : decode cX4_burnOn 20 = .ok (.aload_n 0, 1) := by decide +kernel
theorem dX4_burnOn_21 : decode cX4_burnOn 21 = .ok (.getfield 19, 3) := by decide +kernel
theorem dX4_burnOn_24 : decode cX4_burnOn 24 = .ok (.iload_n 2, 1) := by decide +kernel
theorem dX4_burnOn_25 : decode cX4_burnOn 25 = .ok (.iload 5, 2) := by decide +kernel
theorem dX4_burnOn_27 : decode cX4_burnOn 27 = .ok (.iadd, 1) := by decide +kernel
theorem dX4_burnOn_28 : decode cX4_burnOn 28 = .ok (.iaload, 1) := by decide +kernel
theorem dX4_burnOn_29 : decode cX4_burnOn 29 = .ok (.aload_n 0, 1) := by decide +kernel
theorem dX4_burnOn_30 : decode cX4_burnOn 30 = .ok (.getfield 22, 3) := by decide +kernel
theorem dX4_burnOn_33 : decode cX4_burnOn 33 = .ok (.iload_n 2, 1) := by decide +kernel
theorem dX4_burnOn_34 : decode cX4_burnOn 34 = .ok (.iload 5, 2) := by decide +kernel
theorem dX4_burnOn_36 : decode cX4_burnOn 36 = .ok (.iadd, 1) := by decide +kernel
theorem dX4_burnOn_37 : decode cX4_burnOn 37 = .ok (.iaload, 1) := by decide +kernel
theorem dX4_burnOn_38 : decode cX4_burnOn 38 = .ok (.iadd, 1) := by decide +kernel
theorem dX4_burnOn_39 : decode cX4_burnOn 39 = .ok (.istore 6, 2) := by decide +kernel
theorem dX4_burnOn_41 : decode cX4_burnOn 41 = .ok (.aload_n 0, 1) := by decide +kernel
theorem dX4_burnOn_42 : decode cX4_burnOn 42 = .ok (.getfield 19, 3) := by decide +kernel
theorem dX4_burnOn_45 : decode cX4_burnOn 45 = .ok (.iload_n 3, 1) := by decide +kernel
theorem dX4_burnOn_46 : decode cX4_burnOn 46 = .ok (.iload 5, 2) := by decide +kernel
theorem dX4_burnOn_48 : decode cX4_burnOn 48 = .ok (.iadd, 1) := by decide +kernel
theorem dX4_burnOn_49 : decode cX4_burnOn 49 = .ok (.iload 6, 2) := by decide +kernel
theorem dX4_burnOn_51 : decode cX4_burnOn 51 = .ok (.iastore, 1) := by decide +kernel
theorem dX4_burnOn_52 : decode cX4_burnOn 52 = .ok (.iload 6, 2) := by decide +kernel
theorem dX4_burnOn_54 : decode cX4_burnOn 54 = .ok (.ifCond .le 41, 3) := by decide +kernel
theorem dX4_burnOn_57 : decode cX4_burnOn 57 = .ok (.aload_n 0, 1) := by decide +kernel
theorem dX4_burnOn_58 : decode cX4_burnOn 58 = .ok (.getfield 15, 3) := by decide +kernel
theorem dX4_burnOn_61 : decode cX4_burnOn 61 = .ok (.iload_n 2, 1) := by decide +kernel
theorem dX4_burnOn_62 : decode cX4_burnOn 62 = .ok (.iload 5, 2) := by decide +kernel
theorem dX4_burnOn_64 : decode cX4_burnOn 64 = .ok (.iadd, 1) := by decide +kernel
theorem dX4_burnOn_65 : decode cX4_burnOn 65 = .ok (.iaload, 1) := by decide +kernel
theorem dX4_burnOn_66 : decode cX4_burnOn 66 = .ok (.iload 6, 2) := by decide +kernel
theorem dX4_burnOn_68 : decode cX4_burnOn 68 = .ok (.iadd, 1) := by decide +kernel
theorem dX4_burnOn_69 : decode cX4_burnOn 69 = .ok (.iconst 1, 1) := by decide +kernel
theorem dX4_burnOn_70 : decode cX4_burnOn 70 = .ok (.isub, 1) := by decide +kernel
theorem dX4_burnOn_71 : decode cX4_burnOn 71 = .ok (.iload 6, 2) := by decide +kernel
theorem dX4_burnOn_73 : decode cX4_burnOn 73 = .ok (.idiv, 1) := by decide +kernel
theorem dX4_burnOn_74 : decode cX4_burnOn 74 = .ok (.istore 7, 2) := by decide +kernel
theorem dX4_burnOn_76 : decode cX4_burnOn 76 = .ok (.iload 4, 2) := by decide +kernel
theorem dX4_burnOn_78 : decode cX4_burnOn 78 = .ok (.ifCond .ne 8, 3) := by decide +kernel
theorem dX4_burnOn_81 : decode cX4_burnOn 81 = .ok (.iload 7, 2) := by decide +kernel
theorem dX4_burnOn_83 : decode cX4_burnOn 83 = .ok (.goto 10, 3) := by decide +kernel
theorem dX4_burnOn_86 : decode cX4_burnOn 86 = .ok (.iload 4, 2) := by decide +kernel
theorem dX4_burnOn_88 : decode cX4_burnOn 88 = .ok (.iload 7, 2) := by decide +kernel
theorem dX4_burnOn_90 : decode cX4_burnOn 90 = .ok (.invokestatic 100, 3) := by decide +kernel
theorem dX4_burnOn_93 : decode cX4_burnOn 93 = .ok (.istore 4, 2) := by decide +kernel
theorem dX4_burnOn_95 : decode cX4_burnOn 95 = .ok (.iinc 5 1, 3) := by decide +kernel
theorem dX4_burnOn_98 : decode cX4_burnOn 98 = .ok (.goto (-84), 3) := by decide +kernel
theorem dX4_burnOn_101 : decode cX4_burnOn 101 = .ok (.iconst 0, 1) := by decide +kernel
theorem dX4_burnOn_102 : decode cX4_burnOn 102 = .ok (.istore 5, 2) := by decide +kernel
theorem dX4_burnOn_104 : decode cX4_burnOn 104 = .ok (.iload 5, 2) := by decide +kernel
theorem dX4_burnOn_106 : decode cX4_burnOn 106 = .ok (.iconst 4, 1) := by decide +kernel
theorem dX4_burnOn_107 : decode cX4_burnOn 107 = .ok (.if_icmp .ge 75, 3) := by decide +kernel
theorem dX4_burnOn_110 : decode cX4_burnOn 110 = .ok (.iconst 0, 1) := by decide +kernel
theorem dX4_burnOn_111 : decode cX4_burnOn 111 = .ok (.aload_n 0, 1) := by decide +kernel
theorem dX4_burnOn_112 : decode cX4_burnOn 112 = .ok (.getfield 15, 3) := by decide +kernel
theorem dX4_burnOn_115 : decode cX4_burnOn 115 = .ok (.iload_n 2, 1) := by decide +kernel
theorem dX4_burnOn_116 : decode cX4_burnOn 116 = .ok (.iload 5, 2) := by decide +kernel
theorem dX4_burnOn_118 : decode cX4_burnOn 118 = .ok (.iadd, 1) := by decide +kernel
theorem dX4_burnOn_119 : decode cX4_burnOn 119 = .ok (.iaload, 1) := by decide +kernel
theorem dX4_burnOn_120 : decode cX4_burnOn 120 = .ok (.iload 4, 2) := by decide +kernel
theorem dX4_burnOn_122 : decode cX4_burnOn 122 = .ok (.aload_n 0, 1) := by decide +kernel
theorem dX4_burnOn_123 : decode cX4_burnOn 123 = .ok (.getfield 19, 3) := by decide +kernel
theorem dX4_burnOn_126 : decode cX4_burnOn 126 = .ok (.iload_n 3, 1) := by decide +kernel
theorem dX4_burnOn_127 : decode cX4_burnOn 127 = .ok (.iload 5, 2) := by decide +kernel
theorem dX4_burnOn_129 : decode cX4_burnOn 129 = .ok (.iadd, 1) := by decide +kernel
theorem dX4_burnOn_130 : decode cX4_burnOn 130 = .ok (.iaload, 1) := by decide +kernel
theorem dX4_burnOn_131 : decode cX4_burnOn 131 = .ok (.imul, 1) := by decide +kernel
theorem dX4_burnOn_132 : decode cX4_burnOn 132 = .ok (.isub, 1) := by decide +kernel
theorem dX4_burnOn_133 : decode cX4_burnOn 133 = .ok (.invokestatic 106, 3) := by decide +kernel
theorem dX4_burnOn_136 : decode cX4_burnOn 136 = .ok (.istore 6, 2) := by decide +kernel
theorem dX4_burnOn_138 : decode cX4_burnOn 138 = .ok (.aload_n 0, 1) := by decide +kernel
theorem dX4_burnOn_139 : decode cX4_burnOn 139 = .ok (.getfield 15, 3) := by decide +kernel
theorem dX4_burnOn_142 : decode cX4_burnOn 142 = .ok (.iload_n 3, 1) := by decide +kernel
theorem dX4_burnOn_143 : decode cX4_burnOn 143 = .ok (.iload 5, 2) := by decide +kernel
theorem dX4_burnOn_145 : decode cX4_burnOn 145 = .ok (.iadd, 1) := by decide +kernel
theorem dX4_burnOn_146 : decode cX4_burnOn 146 = .ok (.iload 6, 2) := by decide +kernel
theorem dX4_burnOn_148 : decode cX4_burnOn 148 = .ok (.iastore, 1) := by decide +kernel
theorem dX4_burnOn_149 : decode cX4_burnOn 149 = .ok (.aload_n 0, 1) := by decide +kernel
theorem dX4_burnOn_150 : decode cX4_burnOn 150 = .ok (.getfield 19, 3) := by decide +kernel
theorem dX4_burnOn_153 : decode cX4_burnOn 153 = .ok (.iload_n 3, 1) := by decide +kernel
theorem dX4_burnOn_154 : decode cX4_burnOn 154 = .ok (.iload 5, 2) := by decide +kernel
theorem dX4_burnOn_156 : decode cX4_burnOn 156 = .ok (.iadd, 1) := by decide +kernel
theorem dX4_burnOn_157 : decode cX4_burnOn 157 = .ok (.iload 6, 2) := by decide +kernel
theorem dX4_burnOn_159 : decode cX4_burnOn 159 = .ok (.ifCond .ne 7, 3) := by decide +kernel
theorem dX4_burnOn_162 : decode cX4_burnOn 162 = .ok (.iconst 0, 1) := by decide +kernel
theorem dX4_burnOn_163 : decode cX4_burnOn 163 = .ok (.goto 12, 3) := by decide +kernel
theorem dX4_burnOn_166 : decode cX4_burnOn 166 = .ok (.aload_n 0, 1) := by decide +kernel
theorem dX4_burnOn_167 : decode cX4_burnOn 167 = .ok (.getfield 19, 3) := by decide +kernel
theorem dX4_burnOn_170 : decode cX4_burnOn 170 = .ok (.iload_n 3, 1) := by decide +kernel
theorem dX4_burnOn_171 : decode cX4_burnOn 171 = .ok (.iload 5, 2) := by decide +kernel
theorem dX4_burnOn_173 : decode cX4_burnOn 173 = .ok (.iadd, 1) := by decide +kernel
theorem dX4_burnOn_174 : decode cX4_burnOn 174 = .ok (.iaload, 1) := by decide +kernel
theorem dX4_burnOn_175 : decode cX4_burnOn 175 = .ok (.iastore, 1) := by decide +kernel
theorem dX4_burnOn_176 : decode cX4_burnOn 176 = .ok (.iinc 5 1, 3) := by decide +kernel
theorem dX4_burnOn_179 : decode cX4_burnOn 179 = .ok (.goto (-75), 3) := by decide +kernel
theorem dX4_burnOn_182 : decode cX4_burnOn 182 = .ok (.aload_n 0, 1) := by decide +kernel
theorem dX4_burnOn_183 : decode cX4_burnOn 183 = .ok (.getfield 25, 3) := by decide +kernel
theorem dX4_burnOn_186 : decode cX4_burnOn 186 = .ok (.iload_n 1, 1) := by decide +kernel
theorem dX4_burnOn_187 : decode cX4_burnOn 187 = .ok (.iconst 1, 1) := by decide +kernel
theorem dX4_burnOn_188 : decode cX4_burnOn 188 = .ok (.iadd, 1) := by decide +kernel
theorem dX4_burnOn_189 : decode cX4_burnOn 189 = .ok (.aload_n 0, 1) := by decide +kernel
theorem dX4_burnOn_190 : decode cX4_burnOn 190 = .ok (.getfield 25, 3) := by decide +kernel
theorem dX4_burnOn_193 : decode cX4_burnOn 193 = .ok (.iload_n 1, 1) := by decide +kernel
theorem dX4_burnOn_194 : decode cX4_burnOn 194 = .ok (.iaload, 1) := by decide +kernel
theorem dX4_burnOn_195 : decode cX4_burnOn 195 = .ok (.iload 4, 2) := by decide +kernel
theorem dX4_burnOn_197 : decode cX4_burnOn 197 = .ok (.iadd, 1) := by decide +kernel
theorem dX4_burnOn_198 : decode cX4_burnOn 198 = .ok (.iastore, 1) := by decide +kernel
theorem dX4_burnOn_199 : decode cX4_burnOn 199 = .ok (.iload 4, 2) := by decide +kernel
theorem dX4_burnOn_201 : decode cX4_burnOn 201 = .ok (.ifCond .le 7, 3) := by decide +kernel
theorem dX4_burnOn_204 : decode cX4_burnOn 204 = .ok (.iconst 1, 1) := by decide +kernel
theorem dX4_burnOn_205 : decode cX4_burnOn 205 = .ok (.goto 4, 3) := by decide +kernel
theorem dX4_burnOn_208 : decode cX4_burnOn 208 = .ok (.iconst 0, 1) := by decide +kernel
theorem dX4_burnOn_209 : decode cX4_burnOn 209 = .ok (.ireturn, 1) := by decide +kernel
def Rw_burnOn_95 (k14 : Int32 → Int32 → Int32 → Int32 → Int32 → Nm → Option (Bool × Nm)) (x1 : Int32) (x2 : Int32) (x3 : Int32) (x4 : Int32) (x5 : Int32) (ν : Nm) : Option (Bool × Nm) :=
  k14 x1 x2 x3 x4 (x5 + (1 : Int32)) ν
set_option maxRecDepth 100000 in
set_option maxHeartbeats 4000000 in
theorem t_Rw_burnOn_95 {g : GG} {d : Nat} (hd0 : 1 ≤ d) {k14 : Int32 → Int32 → Int32 → Int32 → Int32 → Nm → Option (Bool × Nm)} (hk14 : ∀ (x1 : Int32) (x2 : Int32) (x3 : Int32) (x4 : Int32) (x5 : Int32) (ν : Nm) (r : (Bool × Nm)), k14 x1 x2 x3 x4 x5 ν = some r → Z g d (0, 0) mX4_burnOn 333 0 0 14 [(0, .ref 276), (1, .int x1), (2, .int x2), (3, .int x3), (4, .int x4), (5, .int x5)] [] (zem ν) (zF g (some (.int (b2i r.1)), zem r.2))) : ∀ (x1 : Int32) (x2 : Int32) (x3 : Int32) (x4 : Int32) (x5 : Int32) (ν : Nm) (r : (Bool × Nm)), Rw_burnOn_95 k14 x1 x2 x3 x4 x5 ν = some r → Z g d (0, 0) mX4_burnOn 333 0 0 95 [(0, .ref 276), (1, .int x1), (2, .int x2), (3, .int x3), (4, .int x4), (5, .int x5)] [] (zem ν) (zF g (some (.int (b2i r.1)), zem r.2)) := by
  intro x1 x2 x3 x4 x5 ν r h
  unfold Rw_burnOn_95 at h
  refine z_iinc (M := mX4_burnOn) (v := (x5 + (1 : Int32))) (lv2 := [(5, .int (x5 + (1 : Int32))), (0, .ref 276), (1, .int x1), (2, .int x2), (3, .int x3), (4, .int x4)]) dX4_burnOn_95 5 rfl rfl (Nat.le_of_ble_eq_true rfl) rfl ?_
  refine z_goto 14 dX4_burnOn_98 rfl ?_
  refine z_lv (lv2 := [(0, .ref 276), (1, .int x1), (2, .int x2), (3, .int x3), (4, .int x4), (5, .int (x5 + (1 : Int32)))]) [1, 2, 3, 4, 5, 0] rfl ?_
  exact hk14 x1 x2 x3 x4 (x5 + (1 : Int32)) ν _ h
def Rw_burnOn_93 (k14 : Int32 → Int32 → Int32 → Int32 → Int32 → Nm → Option (Bool × Nm)) (x1 : Int32) (x2 : Int32) (x3 : Int32) (x5 : Int32) (s0 : Int32) (ν : Nm) : Option (Bool × Nm) :=
  Rw_burnOn_95 k14 x1 x2 x3 s0 x5 ν
set_option maxRecDepth 100000 in
set_option maxHeartbeats 4000000 in
theorem t_Rw_burnOn_93 {g : GG} {d : Nat} (hd0 : 1 ≤ d) {k14 : Int32 → Int32 → Int32 → Int32 → Int32 → Nm → Option (Bool × Nm)} (hk14 : ∀ (x1 : Int32) (x2 : Int32) (x3 : Int32) (x4 : Int32) (x5 : Int32) (ν : Nm) (r : (Bool × Nm)), k14 x1 x2 x3 x4 x5 ν = some r → Z g d (0, 0) mX4_burnOn 333 0 0 14 [(0, .ref 276), (1, .int x1), (2, .int x2), (3, .int x3), (4, .int x4), (5, .int x5)] [] (zem ν) (zF g (some (.int (b2i r.1)), zem r.2))) : ∀ (x1 : Int32) (x2 : Int32) (x3 : Int32) (x5 : Int32) (s0 : Int32) (ν : Nm) (r : (Bool × Nm)), Rw_burnOn_93 k14 x1 x2 x3 x5 s0 ν = some r → Z g d (0, 0) mX4_burnOn 333 0 0 93 [(0, .ref 276), (1, .int x1), (2, .int x2), (3, .int x3), (5, .int x5)] [.int s0] (zem ν) (zF g (some (.int (b2i r.1)), zem r.2)) := by
  intro x1 x2 x3 x5 s0 ν r h
  unfold Rw_burnOn_93 at h
  refine z_istore (M := mX4_burnOn) (lv2 := [(4, .int s0), (0, .ref 276), (1, .int x1), (2, .int x2), (3, .int x3), (5, .int x5)]) dX4_burnOn_93 (Nat.le_of_ble_eq_true rfl) rfl ?_
  refine z_lv (lv2 := [(0, .ref 276), (1, .int x1), (2, .int x2), (3, .int x3), (4, .int s0), (5, .int x5)]) [1, 2, 3, 4, 0, 5] rfl ?_
  exact t_Rw_burnOn_95 hd0 hk14 x1 x2 x3 s0 x5 ν _ h
def Rw_burnOn_76 (k14 : Int32 → Int32 → Int32 → Int32 → Int32 → Nm → Option (Bool × Nm)) (x1 : Int32) (x2 : Int32) (x3 : Int32) (x4 : Int32) (x5 : Int32) (x7 : Int32) (ν : Nm) : Option (Bool × Nm) :=
  (if ¬ x4 = 0 then
    Rw_burnOn_93 k14 x1 x2 x3 x5 (imin x4 x7) ν
  else
    Rw_burnOn_93 k14 x1 x2 x3 x5 x7 ν)
set_option maxRecDepth 100000 in
set_option maxHeartbeats 4000000 in
theorem t_Rw_burnOn_76 {g : GG} {d : Nat} (hd0 : 1 ≤ d) {k14 : Int32 → Int32 → Int32 → Int32 → Int32 → Nm → Option (Bool × Nm)} (hk14 : ∀ (x1 : Int32) (x2 : Int32) (x3 : Int32) (x4 : Int32) (x5 : Int32) (ν : Nm) (r : (Bool × Nm)), k14 x1 x2 x3 x4 x5 ν = some r → Z g d (0, 0) mX4_burnOn 333 0 0 14 [(0, .ref 276), (1, .int x1), (2, .int x2), (3, .int x3), (4, .int x4), (5, .int x5)] [] (zem ν) (zF g (some (.int (b2i r.1)), zem r.2))) : ∀ (x1 : Int32) (x2 : Int32) (x3 : Int32) (x4 : Int32) (x5 : Int32) (x7 : Int32) (ν : Nm) (r : (Bool × Nm)), Rw_burnOn_76 k14 x1 x2 x3 x4 x5 x7 ν = some r → Z g d (0, 0) mX4_burnOn 333 0 0 76 [(0, .ref 276), (1, .int x1), (2, .int x2), (3, .int x3), (4, .int x4), (5, .int x5), (7, .int x7)] [] (zem ν) (zF g (some (.int (b2i r.1)), zem r.2)) := by
  intro x1 x2 x3 x4 x5 x7 ν r h
  unfold Rw_burnOn_76 at h
  refine z_iload dX4_burnOn_76 4 rfl ?_
  refine z_if_ne 86 dX4_burnOn_78 rfl (fun hc1 => ?_) (fun hc1 => ?_)
  · replace h := oT hc1 h
    refine z_iload dX4_burnOn_86 4 rfl ?_
    refine z_iload dX4_burnOn_88 6 rfl ?_
    refine y_mmin dX4_burnOn_90 mlRX4_100 mw_mmin (Nat.le_trans (Nat.le_of_ble_eq_true rfl) hd0) (Nat.le_of_ble_eq_true rfl) ?_
    refine z_lv (lv2 := [(0, .ref 276), (1, .int x1), (2, .int x2), (3, .int x3), (5, .int x5)]) [0, 1, 2, 3, 5] rfl ?_
    exact t_Rw_burnOn_93 hd0 hk14 x1 x2 x3 x5 (imin x4 x7) ν _ h
  · replace h := oFn hc1 h
    refine z_iload dX4_burnOn_81 6 rfl ?_
    refine z_goto 93 dX4_burnOn_83 rfl ?_
    refine z_lv (lv2 := [(0, .ref 276), (1, .int x1), (2, .int x2), (3, .int x3), (5, .int x5)]) [0, 1, 2, 3, 5] rfl ?_
    exact t_Rw_burnOn_93 hd0 hk14 x1 x2 x3 x5 x7 ν _ h
def Rw_burnOn_175 (k104 : Int32 → Int32 → Int32 → Int32 → Int32 → Nm → Option (Bool × Nm)) (x1 : Int32) (x2 : Int32) (x3 : Int32) (x4 : Int32) (x5 : Int32) (s0 : Int32) (s1 : Int32) (ν : Nm) : Option (Bool × Nm) :=
  if inb s1 20 then
  k104 x1 x2 x3 x4 (x5 + (1 : Int32)) (si ν 279 s1.toNatClampNeg s0)
  else none
set_option maxRecDepth 100000 in
set_option maxHeartbeats 4000000 in
theorem t_Rw_burnOn_175 {g : GG} {d : Nat} (hd0 : 1 ≤ d) {k104 : Int32 → Int32 → Int32 → Int32 → Int32 → Nm → Option (Bool × Nm)} (hk104 : ∀ (x1 : Int32) (x2 : Int32) (x3 : Int32) (x4 : Int32) (x5 : Int32) (ν : Nm) (r : (Bool × Nm)), k104 x1 x2 x3 x4 x5 ν = some r → Z g d (0, 0) mX4_burnOn 333 0 0 104 [(0, .ref 276), (1, .int x1), (2, .int x2), (3, .int x3), (4, .int x4), (5, .int x5)] [] (zem ν) (zF g (some (.int (b2i r.1)), zem r.2))) : ∀ (x1 : Int32) (x2 : Int32) (x3 : Int32) (x4 : Int32) (x5 : Int32) (s0 : Int32) (s1 : Int32) (ν : Nm) (r : (Bool × Nm)), Rw_burnOn_175 k104 x1 x2 x3 x4 x5 s0 s1 ν = some r → Z g d (0, 0) mX4_burnOn 333 0 0 175 [(0, .ref 276), (1, .int x1), (2, .int x2), (3, .int x3), (4, .int x4), (5, .int x5)] [.int s0, .int s1, .ref 279] (zem ν) (zF g (some (.int (b2i r.1)), zem r.2)) := by
  intro x1 x2 x3 x4 x5 s0 s1 ν r h
  unfold Rw_burnOn_175 at h
  obtain ⟨hi1, h⟩ := oif h
  refine y_iast (M := mX4_burnOn) (jj := s1.toNatClampNeg) dX4_burnOn_175 zk_279 hi1 rfl ?_
  refine z_iinc (M := mX4_burnOn) (v := (x5 + (1 : Int32))) (lv2 := [(5, .int (x5 + (1 : Int32))), (0, .ref 276), (1, .int x1), (2, .int x2), (3, .int x3), (4, .int x4)]) dX4_burnOn_176 5 rfl rfl (Nat.le_of_ble_eq_true rfl) rfl ?_
  refine z_goto 104 dX4_burnOn_179 rfl ?_
  refine z_lv (lv2 := [(0, .ref 276), (1, .int x1), (2, .int x2), (3, .int x3), (4, .int x4), (5, .int (x5 + (1 : Int32)))]) [1, 2, 3, 4, 5, 0] rfl ?_
  exact hk104 x1 x2 x3 x4 (x5 + (1 : Int32)) (si ν 279 s1.toNatClampNeg s0) _ h
def Rw_burnOn_104 : Nat → Int32 → Int32 → Int32 → Int32 → Int32 → Nm → Option (Bool × Nm)
  | 0, _, _, _, _, _, _ => none
  | f + 1, x1, x2, x3, x4, x5, ν =>
    (if (4 : Int32) ≤ x5 then
      if inb x1 5 then
      if inb (x1 + (1 : Int32)) 5 then
      (if x4 ≤ 0 then
        some (false, (si ν 281 (x1 + (1 : Int32)).toNatClampNeg ((gi ν 281 x1.toNatClampNeg) + x4)))
      else
        some (true, (si ν 281 (x1 + (1 : Int32)).toNatClampNeg ((gi ν 281 x1.toNatClampNeg) + x4))))
      else none
      else none
    else
      if inb (x2 + x5) 20 then
      if inb (x3 + x5) 20 then
      if inb (x3 + x5) 20 then
      (if ¬ (imax (0 : Int32) ((gi ν 278 (x2 + x5).toNatClampNeg) - (x4 * (gi ν 279 (x3 + x5).toNatClampNeg)))) = 0 then
        if inb (x3 + x5) 20 then
        Rw_burnOn_175 (Rw_burnOn_104 f) x1 x2 x3 x4 x5 (gi (si ν 278 (x3 + x5).toNatClampNeg (imax (0 : Int32) ((gi ν 278 (x2 + x5).toNatClampNeg) - (x4 * (gi ν 279 (x3 + x5).toNatClampNeg))))) 279 (x3 + x5).toNatClampNeg) (x3 + x5) (si ν 278 (x3 + x5).toNatClampNeg (imax (0 : Int32) ((gi ν 278 (x2 + x5).toNatClampNeg) - (x4 * (gi ν 279 (x3 + x5).toNatClampNeg)))))
        else none
      else
        Rw_burnOn_175 (Rw_burnOn_104 f) x1 x2 x3 x4 x5 (0 : Int32) (x3 + x5) (si ν 278 (x3 + x5).toNatClampNeg (imax (0 : Int32) ((gi ν 278 (x2 + x5).toNatClampNeg) - (x4 * (gi ν 279 (x3 + x5).toNatClampNeg))))))
      else none
      else none
      else none)
set_option maxRecDepth 100000 in
set_option maxHeartbeats 4000000 in
theorem t_Rw_burnOn_104 {g : GG} {d : Nat} (hd0 : 1 ≤ d) : ∀ (f : Nat), ∀ (x1 : Int32) (x2 : Int32) (x3 : Int32) (x4 : Int32) (x5 : Int32) (ν : Nm) (r : (Bool × Nm)), Rw_burnOn_104 f x1 x2 x3 x4 x5 ν = some r → Z g d (0, 0) mX4_burnOn 333 0 0 104 [(0, .ref 276), (1, .int x1), (2, .int x2), (3, .int x3), (4, .int x4), (5, .int x5)] [] (zem ν) (zF g (some (.int (b2i r.1)), zem r.2)) := by
  intro f
  induction f with
  | zero =>
    intro x1 x2 x3 x4 x5 ν r h
    cases h
  | succ f ih =>
    intro x1 x2 x3 x4 x5 ν r h
    rw [Rw_burnOn_104] at h
    refine z_iload dX4_burnOn_104 5 rfl ?_
    refine z_iconst (M := mX4_burnOn) (v := 4) dX4_burnOn_106 rfl ?_
    refine z_icmp_ge 182 dX4_burnOn_107 rfl (fun hc1 => ?_) (fun hc1 => ?_)
    · replace h := oT hc1 h
      refine z_aload_n dX4_burnOn_182 0 rfl ?_
      refine y_getR (M := mX4_burnOn) (r := 281) dX4_burnOn_183 zk_276 flRX4_25 fr_3_10.1 (fr_3_10.2 _) ?_
      refine z_iload_n dX4_burnOn_186 1 rfl ?_
      refine z_iconst (M := mX4_burnOn) (v := 1) dX4_burnOn_187 rfl ?_
      refine z_iadd dX4_burnOn_188 ?_
      refine z_aload_n dX4_burnOn_189 0 rfl ?_
      refine y_getR (M := mX4_burnOn) (r := 281) dX4_burnOn_190 zk_276 flRX4_25 fr_3_10.1 (fr_3_10.2 _) ?_
      refine z_iload_n dX4_burnOn_193 1 rfl ?_
      obtain ⟨hi2, h⟩ := oif h
      refine y_iald (M := mX4_burnOn) (jj := x1.toNatClampNeg) dX4_burnOn_194 zk_281 hi2 rfl ?_
      refine z_iload dX4_burnOn_195 4 rfl ?_
      refine z_iadd dX4_burnOn_197 ?_
      obtain ⟨hi3, h⟩ := oif h
      refine y_iast (M := mX4_burnOn) (jj := (x1 + (1 : Int32)).toNatClampNeg) dX4_burnOn_198 zk_281 hi3 rfl ?_
      refine z_iload dX4_burnOn_199 4 rfl ?_
      refine z_if_le 208 dX4_burnOn_201 rfl (fun hc4 => ?_) (fun hc4 => ?_)
      · replace h := oT hc4 h
        refine z_iconst (M := mX4_burnOn) (v := 0) dX4_burnOn_208 rfl ?_
        cases h
        exact z_zret dX4_burnOn_209 rfl rfl
      · replace h := oF hc4 h
        refine z_iconst (M := mX4_burnOn) (v := 1) dX4_burnOn_204 rfl ?_
        refine z_goto 209 dX4_burnOn_205 rfl ?_
        cases h
        exact z_zret dX4_burnOn_209 rfl rfl
    · replace h := oF hc1 h
      refine z_iconst (M := mX4_burnOn) (v := 0) dX4_burnOn_110 rfl ?_
      refine z_aload_n dX4_burnOn_111 0 rfl ?_
      refine y_getR (M := mX4_burnOn) (r := 278) dX4_burnOn_112 zk_276 flRX4_15 fr_3_7.1 (fr_3_7.2 _) ?_
      refine z_iload_n dX4_burnOn_115 2 rfl ?_
      refine z_iload dX4_burnOn_116 5 rfl ?_
      refine z_iadd dX4_burnOn_118 ?_
      obtain ⟨hi5, h⟩ := oif h
      refine y_iald (M := mX4_burnOn) (jj := (x2 + x5).toNatClampNeg) dX4_burnOn_119 zk_278 hi5 rfl ?_
      refine z_iload dX4_burnOn_120 4 rfl ?_
      refine z_aload_n dX4_burnOn_122 0 rfl ?_
      refine y_getR (M := mX4_burnOn) (r := 279) dX4_burnOn_123 zk_276 flRX4_19 fr_3_8.1 (fr_3_8.2 _) ?_
      refine z_iload_n dX4_burnOn_126 3 rfl ?_
      refine z_iload dX4_burnOn_127 5 rfl ?_
      refine z_iadd dX4_burnOn_129 ?_
      obtain ⟨hi6, h⟩ := oif h
      refine y_iald (M := mX4_burnOn) (jj := (x3 + x5).toNatClampNeg) dX4_burnOn_130 zk_279 hi6 rfl ?_
      refine z_imul dX4_burnOn_131 ?_
      refine z_isub dX4_burnOn_132 ?_
      refine y_mmax dX4_burnOn_133 mlRX4_106 mw_mmax (Nat.le_trans (Nat.le_of_ble_eq_true rfl) hd0) (Nat.le_of_ble_eq_true rfl) ?_
      refine z_istore (M := mX4_burnOn) (lv2 := [(6, .int (imax (0 : Int32) ((gi ν 278 (x2 + x5).toNatClampNeg) - (x4 * (gi ν 279 (x3 + x5).toNatClampNeg))))), (0, .ref 276), (1, .int x1), (2, .int x2), (3, .int x3), (4, .int x4), (5, .int x5)]) dX4_burnOn_136 (Nat.le_of_ble_eq_true rfl) rfl ?_
      refine z_aload_n dX4_burnOn_138 1 rfl ?_
      refine y_getR (M := mX4_burnOn) (r := 278) dX4_burnOn_139 zk_276 flRX4_15 fr_3_7.1 (fr_3_7.2 _) ?_
      refine z_iload_n dX4_burnOn_142 4 rfl ?_
      refine z_iload dX4_burnOn_143 6 rfl ?_
      refine z_iadd dX4_burnOn_145 ?_
      refine z_iload dX4_burnOn_146 0 rfl ?_
      obtain ⟨hi7, h⟩ := oif h
      refine y_iast (M := mX4_burnOn) (jj := (x3 + x5).toNatClampNeg) dX4_burnOn_148 zk_278 hi7 rfl ?_
      refine z_aload_n dX4_burnOn_149 1 rfl ?_
      refine y_getR (M := mX4_burnOn) (r := 279) dX4_burnOn_150 zk_276 flRX4_19 fr_3_8.1 (fr_3_8.2 _) ?_
      refine z_iload_n dX4_burnOn_153 4 rfl ?_
      refine z_iload dX4_burnOn_154 6 rfl ?_
      refine z_iadd dX4_burnOn_156 ?_
      refine z_iload dX4_burnOn_157 0 rfl ?_
      refine z_if_ne 166 dX4_burnOn_159 rfl (fun hc8 => ?_) (fun hc8 => ?_)
      · replace h := oT hc8 h
        refine z_aload_n dX4_burnOn_166 1 rfl ?_
        refine y_getR (M := mX4_burnOn) (r := 279) dX4_burnOn_167 zk_276 flRX4_19 fr_3_8.1 (fr_3_8.2 _) ?_
        refine z_iload_n dX4_burnOn_170 4 rfl ?_
        refine z_iload dX4_burnOn_171 6 rfl ?_
        refine z_iadd dX4_burnOn_173 ?_
        obtain ⟨hi9, h⟩ := oif h
        refine y_iald (M := mX4_burnOn) (jj := (x3 + x5).toNatClampNeg) dX4_burnOn_174 zk_279 hi9 rfl ?_
        refine z_lv (lv2 := [(0, .ref 276), (1, .int x1), (2, .int x2), (3, .int x3), (4, .int x4), (5, .int x5)]) [1, 2, 3, 4, 5, 6] rfl ?_
        exact t_Rw_burnOn_175 hd0 ih x1 x2 x3 x4 x5 (gi (si ν 278 (x3 + x5).toNatClampNeg (imax (0 : Int32) ((gi ν 278 (x2 + x5).toNatClampNeg) - (x4 * (gi ν 279 (x3 + x5).toNatClampNeg))))) 279 (x3 + x5).toNatClampNeg) (x3 + x5) (si ν 278 (x3 + x5).toNatClampNeg (imax (0 : Int32) ((gi ν 278 (x2 + x5).toNatClampNeg) - (x4 * (gi ν 279 (x3 + x5).toNatClampNeg))))) _ h
      · replace h := oFn hc8 h
        refine z_iconst (M := mX4_burnOn) (v := 0) dX4_burnOn_162 rfl ?_
        refine z_goto 175 dX4_burnOn_163 rfl ?_
        refine z_lv (lv2 := [(0, .ref 276), (1, .int x1), (2, .int x2), (3, .int x3), (4, .int x4), (5, .int x5)]) [1, 2, 3, 4, 5, 6] rfl ?_
        exact t_Rw_burnOn_175 hd0 ih x1 x2 x3 x4 x5 (0 : Int32) (x3 + x5) (si ν 278 (x3 + x5).toNatClampNeg (imax (0 : Int32) ((gi ν 278 (x2 + x5).toNatClampNeg) - (x4 * (gi ν 279 (x3 + x5).toNatClampNeg))))) _ h
def Rw_burnOn_14 : Nat → Int32 → Int32 → Int32 → Int32 → Int32 → Nm → Option (Bool × Nm)
  | 0, _, _, _, _, _, _ => none
  | f + 1, x1, x2, x3, x4, x5, ν =>
    (if (4 : Int32) ≤ x5 then
      Rw_burnOn_104 FU x1 x2 x3 x4 (0 : Int32) ν
    else
      if inb (x2 + x5) 20 then
      if inb (x2 + x5) 20 then
      if inb (x3 + x5) 20 then
      (if ((gi ν 279 (x2 + x5).toNatClampNeg) + (gi ν 280 (x2 + x5).toNatClampNeg)) ≤ 0 then
        Rw_burnOn_95 (Rw_burnOn_14 f) x1 x2 x3 x4 x5 (si ν 279 (x3 + x5).toNatClampNeg ((gi ν 279 (x2 + x5).toNatClampNeg) + (gi ν 280 (x2 + x5).toNatClampNeg)))
      else
        if inb (x2 + x5) 20 then
        if ((gi ν 279 (x2 + x5).toNatClampNeg) + (gi ν 280 (x2 + x5).toNatClampNeg)) = 0 then none else
        Rw_burnOn_76 (Rw_burnOn_14 f) x1 x2 x3 x4 x5 ((((gi (si ν 279 (x3 + x5).toNatClampNeg ((gi ν 279 (x2 + x5).toNatClampNeg) + (gi ν 280 (x2 + x5).toNatClampNeg))) 278 (x2 + x5).toNatClampNeg) + ((gi ν 279 (x2 + x5).toNatClampNeg) + (gi ν 280 (x2 + x5).toNatClampNeg))) - (1 : Int32)) / ((gi ν 279 (x2 + x5).toNatClampNeg) + (gi ν 280 (x2 + x5).toNatClampNeg))) (si ν 279 (x3 + x5).toNatClampNeg ((gi ν 279 (x2 + x5).toNatClampNeg) + (gi ν 280 (x2 + x5).toNatClampNeg)))
        else none)
      else none
      else none
      else none)
set_option maxRecDepth 100000 in
set_option maxHeartbeats 4000000 in
theorem t_Rw_burnOn_14 {g : GG} {d : Nat} (hd0 : 1 ≤ d) : ∀ (f : Nat), ∀ (x1 : Int32) (x2 : Int32) (x3 : Int32) (x4 : Int32) (x5 : Int32) (ν : Nm) (r : (Bool × Nm)), Rw_burnOn_14 f x1 x2 x3 x4 x5 ν = some r → Z g d (0, 0) mX4_burnOn 333 0 0 14 [(0, .ref 276), (1, .int x1), (2, .int x2), (3, .int x3), (4, .int x4), (5, .int x5)] [] (zem ν) (zF g (some (.int (b2i r.1)), zem r.2)) := by
  intro f
  induction f with
  | zero =>
    intro x1 x2 x3 x4 x5 ν r h
    cases h
  | succ f ih =>
    intro x1 x2 x3 x4 x5 ν r h
    rw [Rw_burnOn_14] at h
    refine z_iload dX4_burnOn_14 5 rfl ?_
    refine z_iconst (M := mX4_burnOn) (v := 4) dX4_burnOn_16 rfl ?_
    refine z_icmp_ge 101 dX4_burnOn_17 rfl (fun hc1 => ?_) (fun hc1 => ?_)
    · replace h := oT hc1 h
      refine z_iconst (M := mX4_burnOn) (v := 0) dX4_burnOn_101 rfl ?_
      refine z_istore (M := mX4_burnOn) (lv2 := [(5, .int (0 : Int32)), (0, .ref 276), (1, .int x1), (2, .int x2), (3, .int x3), (4, .int x4)]) dX4_burnOn_102 (Nat.le_of_ble_eq_true rfl) rfl ?_
      refine z_lv (lv2 := [(0, .ref 276), (1, .int x1), (2, .int x2), (3, .int x3), (4, .int x4), (5, .int (0 : Int32))]) [1, 2, 3, 4, 5, 0] rfl ?_
      exact t_Rw_burnOn_104 hd0 FU x1 x2 x3 x4 (0 : Int32) ν _ h
    · replace h := oF hc1 h
      refine z_aload_n dX4_burnOn_20 0 rfl ?_
      refine y_getR (M := mX4_burnOn) (r := 279) dX4_burnOn_21 zk_276 flRX4_19 fr_3_8.1 (fr_3_8.2 _) ?_
      refine z_iload_n dX4_burnOn_24 2 rfl ?_
      refine z_iload dX4_burnOn_25 5 rfl ?_
      refine z_iadd dX4_burnOn_27 ?_
      obtain ⟨hi2, h⟩ := oif h
      refine y_iald (M := mX4_burnOn) (jj := (x2 + x5).toNatClampNeg) dX4_burnOn_28 zk_279 hi2 rfl ?_
      refine z_aload_n dX4_burnOn_29 0 rfl ?_
      refine y_getR (M := mX4_burnOn) (r := 280) dX4_burnOn_30 zk_276 flRX4_22 fr_3_9.1 (fr_3_9.2 _) ?_
      refine z_iload_n dX4_burnOn_33 2 rfl ?_
      refine z_iload dX4_burnOn_34 5 rfl ?_
      refine z_iadd dX4_burnOn_36 ?_
      obtain ⟨hi3, h⟩ := oif h
      refine y_iald (M := mX4_burnOn) (jj := (x2 + x5).toNatClampNeg) dX4_burnOn_37 zk_280 hi3 rfl ?_
      refine z_iadd dX4_burnOn_38 ?_
      refine z_istore (M := mX4_burnOn) (lv2 := [(6, .int ((gi ν 279 (x2 + x5).toNatClampNeg) + (gi ν 280 (x2 + x5).toNatClampNeg))), (0, .ref 276), (1, .int x1), (2, .int x2), (3, .int x3), (4, .int x4), (5, .int x5)]) dX4_burnOn_39 (Nat.le_of_ble_eq_true rfl) rfl ?_
      refine z_aload_n dX4_burnOn_41 1 rfl ?_
      refine y_getR (M := mX4_burnOn) (r := 279) dX4_burnOn_42 zk_276 flRX4_19 fr_3_8.1 (fr_3_8.2 _) ?_
      refine z_iload_n dX4_burnOn_45 4 rfl ?_
      refine z_iload dX4_burnOn_46 6 rfl ?_
      refine z_iadd dX4_burnOn_48 ?_
      refine z_iload dX4_burnOn_49 0 rfl ?_
      obtain ⟨hi4, h⟩ := oif h
      refine y_iast (M := mX4_burnOn) (jj := (x3 + x5).toNatClampNeg) dX4_burnOn_51 zk_279 hi4 rfl ?_
      refine z_iload dX4_burnOn_52 0 rfl ?_
      refine z_if_le 95 dX4_burnOn_54 rfl (fun hc5 => ?_) (fun hc5 => ?_)
      · replace h := oT hc5 h
        refine z_lv (lv2 := [(0, .ref 276), (1, .int x1), (2, .int x2), (3, .int x3), (4, .int x4), (5, .int x5)]) [1, 2, 3, 4, 5, 6] rfl ?_
        exact t_Rw_burnOn_95 hd0 ih x1 x2 x3 x4 x5 (si ν 279 (x3 + x5).toNatClampNeg ((gi ν 279 (x2 + x5).toNatClampNeg) + (gi ν 280 (x2 + x5).toNatClampNeg))) _ h
      · replace h := oF hc5 h
        refine z_aload_n dX4_burnOn_57 1 rfl ?_
        refine y_getR (M := mX4_burnOn) (r := 278) dX4_burnOn_58 zk_276 flRX4_15 fr_3_7.1 (fr_3_7.2 _) ?_
        refine z_iload_n dX4_burnOn_61 3 rfl ?_
        refine z_iload dX4_burnOn_62 6 rfl ?_
        refine z_iadd dX4_burnOn_64 ?_
        obtain ⟨hi6, h⟩ := oif h
        refine y_iald (M := mX4_burnOn) (jj := (x2 + x5).toNatClampNeg) dX4_burnOn_65 zk_278 hi6 rfl ?_
        refine z_iload dX4_burnOn_66 0 rfl ?_
        refine z_iadd dX4_burnOn_68 ?_
        refine z_iconst (M := mX4_burnOn) (v := 1) dX4_burnOn_69 rfl ?_
        refine z_isub dX4_burnOn_70 ?_
        refine z_iload dX4_burnOn_71 0 rfl ?_
        obtain ⟨hz7, h⟩ := oifn h
        refine z_idiv dX4_burnOn_73 hz7 ?_
        refine z_istore (M := mX4_burnOn) (lv2 := [(7, .int ((((gi (si ν 279 (x3 + x5).toNatClampNeg ((gi ν 279 (x2 + x5).toNatClampNeg) + (gi ν 280 (x2 + x5).toNatClampNeg))) 278 (x2 + x5).toNatClampNeg) + ((gi ν 279 (x2 + x5).toNatClampNeg) + (gi ν 280 (x2 + x5).toNatClampNeg))) - (1 : Int32)) / ((gi ν 279 (x2 + x5).toNatClampNeg) + (gi ν 280 (x2 + x5).toNatClampNeg)))), (6, .int ((gi ν 279 (x2 + x5).toNatClampNeg) + (gi ν 280 (x2 + x5).toNatClampNeg))), (0, .ref 276), (1, .int x1), (2, .int x2), (3, .int x3), (4, .int x4), (5, .int x5)]) dX4_burnOn_74 (Nat.le_of_ble_eq_true rfl) rfl ?_
        refine z_lv (lv2 := [(0, .ref 276), (1, .int x1), (2, .int x2), (3, .int x3), (4, .int x4), (5, .int x5), (7, .int ((((gi (si ν 279 (x3 + x5).toNatClampNeg ((gi ν 279 (x2 + x5).toNatClampNeg) + (gi ν 280 (x2 + x5).toNatClampNeg))) 278 (x2 + x5).toNatClampNeg) + ((gi ν 279 (x2 + x5).toNatClampNeg) + (gi ν 280 (x2 + x5).toNatClampNeg))) - (1 : Int32)) / ((gi ν 279 (x2 + x5).toNatClampNeg) + (gi ν 280 (x2 + x5).toNatClampNeg))))]) [2, 3, 4, 5, 6, 7, 0] rfl ?_
        exact t_Rw_burnOn_76 hd0 ih x1 x2 x3 x4 x5 ((((gi (si ν 279 (x3 + x5).toNatClampNeg ((gi ν 279 (x2 + x5).toNatClampNeg) + (gi ν 280 (x2 + x5).toNatClampNeg))) 278 (x2 + x5).toNatClampNeg) + ((gi ν 279 (x2 + x5).toNatClampNeg) + (gi ν 280 (x2 + x5).toNatClampNeg))) - (1 : Int32)) / ((gi ν 279 (x2 + x5).toNatClampNeg) + (gi ν 280 (x2 + x5).toNatClampNeg))) (si ν 279 (x3 + x5).toNatClampNeg ((gi ν 279 (x2 + x5).toNatClampNeg) + (gi ν 280 (x2 + x5).toNatClampNeg))) _ h
def Rw_burnOn (x1 : Int32) (ν : Nm) : Option (Bool × Nm) :=
  Rw_burnOn_14 FU x1 (x1 * (4 : Int32)) ((x1 * (4 : Int32)) + (4 : Int32)) (0 : Int32) (0 : Int32) ν
set_option maxRecDepth 100000 in
set_option maxHeartbeats 4000000 in
theorem t_Rw_burnOn {g : GG} {d : Nat} (hd0 : 1 ≤ d) : ∀ (x1 : Int32) (ν : Nm) (r : (Bool × Nm)), Rw_burnOn x1 ν = some r → Z g d (0, 0) mX4_burnOn 333 0 0 0 [(0, .ref 276), (1, .int x1)] [] (zem ν) (zF g (some (.int (b2i r.1)), zem r.2)) := by
  intro x1 ν r h
  unfold Rw_burnOn at h
  refine z_iload_n dX4_burnOn_0 1 rfl ?_
  refine z_iconst (M := mX4_burnOn) (v := 4) dX4_burnOn_1 rfl ?_
  refine z_imul dX4_burnOn_2 ?_
  refine z_istore_n (M := mX4_burnOn) (lv2 := [(2, .int (x1 * (4 : Int32))), (0, .ref 276), (1, .int x1)]) dX4_burnOn_3 (Nat.le_of_ble_eq_true rfl) rfl ?_
  refine z_iload_n dX4_burnOn_4 0 rfl ?_
  refine z_iconst (M := mX4_burnOn) (v := 4) dX4_burnOn_5 rfl ?_
  refine z_iadd dX4_burnOn_6 ?_
  refine z_istore_n (M := mX4_burnOn) (lv2 := [(3, .int ((x1 * (4 : Int32)) + (4 : Int32))), (2, .int (x1 * (4 : Int32))), (0, .ref 276), (1, .int x1)]) dX4_burnOn_7 (Nat.le_of_ble_eq_true rfl) rfl ?_
  refine z_iconst (M := mX4_burnOn) (v := 0) dX4_burnOn_8 rfl ?_
  refine z_istore (M := mX4_burnOn) (lv2 := [(4, .int (0 : Int32)), (3, .int ((x1 * (4 : Int32)) + (4 : Int32))), (2, .int (x1 * (4 : Int32))), (0, .ref 276), (1, .int x1)]) dX4_burnOn_9 (Nat.le_of_ble_eq_true rfl) rfl ?_
  refine z_iconst (M := mX4_burnOn) (v := 0) dX4_burnOn_11 rfl ?_
  refine z_istore (M := mX4_burnOn) (lv2 := [(5, .int (0 : Int32)), (4, .int (0 : Int32)), (3, .int ((x1 * (4 : Int32)) + (4 : Int32))), (2, .int (x1 * (4 : Int32))), (0, .ref 276), (1, .int x1)]) dX4_burnOn_12 (Nat.le_of_ble_eq_true rfl) rfl ?_
  refine z_lv (lv2 := [(0, .ref 276), (1, .int x1), (2, .int (x1 * (4 : Int32))), (3, .int ((x1 * (4 : Int32)) + (4 : Int32))), (4, .int (0 : Int32)), (5, .int (0 : Int32))]) [4, 5, 3, 2, 1, 0] rfl ?_
  exact t_Rw_burnOn_14 hd0 FU x1 (x1 * (4 : Int32)) ((x1 * (4 : Int32)) + (4 : Int32)) (0 : Int32) (0 : Int32) ν _ h
theorem ct_Rw_burnOn {g : GG} {d : Nat} {x1 : Int32} {ν : Nm} {r : (Bool × Nm)} (hd0 : 1 ≤ d)  (h : Rw_burnOn x1 ν = some r) : Ct g d mX4_burnOn [.ref 276, .int x1] (zem ν) (some (.int (b2i r.1)), zem r.2) := y_entry in_X4_burnOn (Nat.le_of_ble_eq_true rfl) rfl (t_Rw_burnOn hd0 x1 ν r h)
-- FuseMinutes$Rows.chooseNext(I)Z
theorem dX4_chooseNext_0 : decode cX4_chooseNext 0 = .ok (.iload_n 1, 1) := by decide +kernel
theorem dX4_chooseNext_1 : decode cX4_chooseNext 1 = .ok (.iconst 4, 1) := by decide +kernel
theorem dX4_chooseNext_2 : decode cX4_chooseNext 2 = .ok (.imul, 1) := by decide +kernel
theorem dX4_chooseNext_3 : decode cX4_chooseNext 3 = .ok (.istore_n 2, 1) := by decide +kernel
theorem dX4_chooseNext_4 : decode cX4_chooseNext 4 = .ok (.iconst 0, 1) := by decide +kernel
theorem dX4_chooseNext_5 : decode cX4_chooseNext 5 = .ok (.istore_n 3, 1) := by decide +kernel
theorem dX4_chooseNext_6 : decode cX4_chooseNext 6 = .ok (.iload_n 3, 1) := by decide +kernel
theorem dX4_chooseNext_7 : decode cX4_chooseNext 7 = .ok (.iconst 4, 1) := by decide +kernel
theorem dX4_chooseNext_8 : decode cX4_chooseNext 8 = .ok (.if_icmp .ge 72, 3) := by decide +kernel
theorem dX4_chooseNext_11 : decode cX4_chooseNext 11 = .ok (.aload_n 0, 1) := by decide +kernel
theorem dX4_chooseNext_12 : decode cX4_chooseNext 12 = .ok (.getfield 15, 3) := by decide +kernel
theorem dX4_chooseNext_15 : decode cX4_chooseNext 15 = .ok (.iload_n 2, 1) := by decide +kernel
theorem dX4_chooseNext_16 : decode cX4_chooseNext 16 = .ok (.iload_n 3, 1) := by decide +kernel
theorem dX4_chooseNext_17 : decode cX4_chooseNext 17 = .ok (.iadd, 1) := by decide +kernel
theorem dX4_chooseNext_18 : decode cX4_chooseNext 18 = .ok (.iaload, 1) := by decide +kernel
theorem dX4_chooseNext_19 : decode cX4_chooseNext 19 = .ok (.ifCond .ne 7, 3) := by decide +kernel
theorem dX4_chooseNext_22 : decode cX4_chooseNext 22 = .ok (.iconst 0, 1) := by decide +kernel
theorem dX4_chooseNext_23 : decode cX4_chooseNext 23 = .ok (.goto 13, 3) := by decide +kernel
theorem dX4_chooseNext_26 : decode cX4_chooseNext 26 = .ok (.iconst 2, 1) := by decide +kernel
theorem dX4_chooseNext_27 : decode cX4_chooseNext 27 = .ok (.aload_n 0, 1) := by decide +kernel
theorem dX4_chooseNext_28 : decode cX4_chooseNext 28 = .ok (.getfield 19, 3) := by decide +kernel
theorem dX4_chooseNext_31 : decode cX4_chooseNext 31 = .ok (.iload_n 2, 1) := by decide +kernel
theorem dX4_chooseNext_32 : decode cX4_chooseNext 32 = .ok (.iload_n 3, 1) := by decide +kernel
theorem dX4_chooseNext_33 : decode cX4_chooseNext 33 = .ok (.iadd, 1) := by decide +kernel
theorem dX4_chooseNext_34 : decode cX4_chooseNext 34 = .ok (.iaload, 1) := by decide +kernel
theorem dX4_chooseNext_35 : decode cX4_chooseNext 35 = .ok (.isub, 1) := by decide +kernel
theorem dX4_chooseNext_36 : decode cX4_chooseNext 36 = .ok (.istore 4, 2) := by decide +kernel
theorem dX4_chooseNext_38 : decode cX4_chooseNext 38 = .ok (.aload_n 0, 1) := by decide +kernel
theorem dX4_chooseNext_39 : decode cX4_chooseNext 39 = .ok (.getfield 22, 3) := by decide +kernel
theorem dX4_chooseNext_42 : decode cX4_chooseNext 42 = .ok (.iload_n 2, 1) := by decide +kernel
theorem dX4_chooseNext_43 : decode cX4_chooseNext 43 = .ok (.iload_n 3, 1) := by decide +kernel
theorem dX4_chooseNext_44 : decode cX4_chooseNext 44 = .ok (.iadd, 1) := by decide +kernel
theorem dX4_chooseNext_45 : decode cX4_chooseNext 45 = .ok (.iaload, 1) := by decide +kernel
theorem dX4_chooseNext_46 : decode cX4_chooseNext 46 = .ok (.iload 4, 2) := by decide +kernel
theorem dX4_chooseNext_48 : decode cX4_chooseNext 48 = .ok (.if_icmp .ge 17, 3) := by decide +kernel
theorem dX4_chooseNext_51 : decode cX4_chooseNext 51 = .ok (.aload_n 0, 1) := by decide +kernel
theorem dX4_chooseNext_52 : decode cX4_chooseNext 52 = .ok (.getfield 22, 3) := by decide +kernel
theorem dX4_chooseNext_55 : decode cX4_chooseNext 55 = .ok (.iload_n 2, 1) := by decide +kernel
theorem dX4_chooseNext_56 : decode cX4_chooseNext 56 = .ok (.iload_n 3, 1) := by decide +kernel
theorem dX4_chooseNext_57 : decode cX4_chooseNext 57 = .ok (.iadd, 1) := by decide +kernel
theorem dX4_chooseNext_58 : decode cX4_chooseNext 58 = .ok (.dup2, 1) := by decide +kernel
theorem dX4_chooseNext_59 : decode cX4_chooseNext 59 = .ok (.iaload, 1) := by decide +kernel
theorem dX4_chooseNext_60 : decode cX4_chooseNext 60 = .ok (.iconst 1, 1) := by decide +kernel
theorem dX4_chooseNext_61 : decode cX4_chooseNext 61 = .ok (.iadd, 1) := by decide +kernel
theorem dX4_chooseNext_62 : decode cX4_chooseNext 62 = .ok (.iastore, 1) := by decide +kernel
theorem dX4_chooseNext_63 : decode cX4_chooseNext 63 = .ok (.iconst 1, 1) := by decide +kernel
theorem dX4_chooseNext_64 : decode cX4_chooseNext 64 = .ok (.ireturn, 1) := by decide +kernel
theorem dX4_chooseNext_65 : decode cX4_chooseNext 65 = .ok (.aload_n 0, 1) := by decide +kernel
theorem dX4_chooseNext_66 : decode cX4_chooseNext 66 = .ok (.getfield 22, 3) := by decide +kernel
theorem dX4_chooseNext_69 : decode cX4_chooseNext 69 = .ok (.iload_n 2, 1) := by decide +kernel
theorem dX4_chooseNext_70 : decode cX4_chooseNext 70 = .ok (.iload_n 3, 1) := by decide +kernel
theorem dX4_chooseNext_71 : decode cX4_chooseNext 71 = .ok (.iadd, 1) := by decide +kernel
theorem dX4_chooseNext_72 : decode cX4_chooseNext 72 = .ok (.iconst 0, 1) := by decide +kernel
theorem dX4_chooseNext_73 : decode cX4_chooseNext 73 = .ok (.iastore, 1) := by decide +kernel
theorem dX4_chooseNext_74 : decode cX4_chooseNext 74 = .ok (.iinc 3 1, 3) := by decide +kernel
theorem dX4_chooseNext_77 : decode cX4_chooseNext 77 = .ok (.goto (-71), 3) := by decide +kernel
theorem dX4_chooseNext_80 : decode cX4_chooseNext 80 = .ok (.iconst 0, 1) := by decide +kernel
theorem dX4_chooseNext_81 : decode cX4_chooseNext 81 = .ok (.ireturn, 1) := by decide +kernel
def Rw_chooseNext_36 (k6 : Int32 → Int32 → Nm → Option (Bool × Nm)) (x2 : Int32) (x3 : Int32) (s0 : Int32) (ν : Nm) : Option (Bool × Nm) :=
  if inb (x2 + x3) 20 then
  (if s0 ≤ (gi ν 280 (x2 + x3).toNatClampNeg) then
    if inb (x2 + x3) 20 then
    k6 x2 (x3 + (1 : Int32)) (si ν 280 (x2 + x3).toNatClampNeg (0 : Int32))
    else none
  else
    if inb (x2 + x3) 20 then
    if inb (x2 + x3) 20 then
    some (true, (si ν 280 (x2 + x3).toNatClampNeg ((gi ν 280 (x2 + x3).toNatClampNeg) + (1 : Int32))))
    else none
    else none)
  else none
set_option maxRecDepth 100000 in
set_option maxHeartbeats 4000000 in
theorem t_Rw_chooseNext_36 {g : GG} {d : Nat} (hd0 : 1 ≤ d) {k6 : Int32 → Int32 → Nm → Option (Bool × Nm)} (hk6 : ∀ (x2 : Int32) (x3 : Int32) (ν : Nm) (r : (Bool × Nm)), k6 x2 x3 ν = some r → Z g d (0, 0) mX4_chooseNext 333 0 0 6 [(0, .ref 276), (2, .int x2), (3, .int x3)] [] (zem ν) (zF g (some (.int (b2i r.1)), zem r.2))) : ∀ (x2 : Int32) (x3 : Int32) (s0 : Int32) (ν : Nm) (r : (Bool × Nm)), Rw_chooseNext_36 k6 x2 x3 s0 ν = some r → Z g d (0, 0) mX4_chooseNext 333 0 0 36 [(0, .ref 276), (2, .int x2), (3, .int x3)] [.int s0] (zem ν) (zF g (some (.int (b2i r.1)), zem r.2)) := by
  intro x2 x3 s0 ν r h
  unfold Rw_chooseNext_36 at h
  refine z_istore (M := mX4_chooseNext) (lv2 := [(4, .int s0), (0, .ref 276), (2, .int x2), (3, .int x3)]) dX4_chooseNext_36 (Nat.le_of_ble_eq_true rfl) rfl ?_
  refine z_aload_n dX4_chooseNext_38 1 rfl ?_
  refine y_getR (M := mX4_chooseNext) (r := 280) dX4_chooseNext_39 zk_276 flRX4_22 fr_3_9.1 (fr_3_9.2 _) ?_
  refine z_iload_n dX4_chooseNext_42 2 rfl ?_
  refine z_iload_n dX4_chooseNext_43 3 rfl ?_
  refine z_iadd dX4_chooseNext_44 ?_
  obtain ⟨hi1, h⟩ := oif h
  refine y_iald (M := mX4_chooseNext) (jj := (x2 + x3).toNatClampNeg) dX4_chooseNext_45 zk_280 hi1 rfl ?_
  refine z_iload dX4_chooseNext_46 0 rfl ?_
  refine z_icmp_ge 65 dX4_chooseNext_48 rfl (fun hc2 => ?_) (fun hc2 => ?_)
  · replace h := oT hc2 h
    refine z_aload_n dX4_chooseNext_65 1 rfl ?_
    refine y_getR (M := mX4_chooseNext) (r := 280) dX4_chooseNext_66 zk_276 flRX4_22 fr_3_9.1 (fr_3_9.2 _) ?_
    refine z_iload_n dX4_chooseNext_69 2 rfl ?_
    refine z_iload_n dX4_chooseNext_70 3 rfl ?_
    refine z_iadd dX4_chooseNext_71 ?_
    refine z_iconst (M := mX4_chooseNext) (v := 0) dX4_chooseNext_72 rfl ?_
    obtain ⟨hi3, h⟩ := oif h
    refine y_iast (M := mX4_chooseNext) (jj := (x2 + x3).toNatClampNeg) dX4_chooseNext_73 zk_280 hi3 rfl ?_
    refine z_iinc (M := mX4_chooseNext) (v := (x3 + (1 : Int32))) (lv2 := [(3, .int (x3 + (1 : Int32))), (4, .int s0), (0, .ref 276), (2, .int x2)]) dX4_chooseNext_74 3 rfl rfl (Nat.le_of_ble_eq_true rfl) rfl ?_
    refine z_goto 6 dX4_chooseNext_77 rfl ?_
    refine z_lv (lv2 := [(0, .ref 276), (2, .int x2), (3, .int (x3 + (1 : Int32)))]) [2, 3, 0] rfl ?_
    exact hk6 x2 (x3 + (1 : Int32)) (si ν 280 (x2 + x3).toNatClampNeg (0 : Int32)) _ h
  · replace h := oF hc2 h
    refine z_aload_n dX4_chooseNext_51 1 rfl ?_
    refine y_getR (M := mX4_chooseNext) (r := 280) dX4_chooseNext_52 zk_276 flRX4_22 fr_3_9.1 (fr_3_9.2 _) ?_
    refine z_iload_n dX4_chooseNext_55 2 rfl ?_
    refine z_iload_n dX4_chooseNext_56 3 rfl ?_
    refine z_iadd dX4_chooseNext_57 ?_
    refine z_dup2 dX4_chooseNext_58 rfl rfl ?_
    obtain ⟨hi4, h⟩ := oif h
    refine y_iald (M := mX4_chooseNext) (jj := (x2 + x3).toNatClampNeg) dX4_chooseNext_59 zk_280 hi4 rfl ?_
    refine z_iconst (M := mX4_chooseNext) (v := 1) dX4_chooseNext_60 rfl ?_
    refine z_iadd dX4_chooseNext_61 ?_
    obtain ⟨hi5, h⟩ := oif h
    refine y_iast (M := mX4_chooseNext) (jj := (x2 + x3).toNatClampNeg) dX4_chooseNext_62 zk_280 hi5 rfl ?_
    refine z_iconst (M := mX4_chooseNext) (v := 1) dX4_chooseNext_63 rfl ?_
    cases h
    exact z_zret dX4_chooseNext_64 rfl rfl
def Rw_chooseNext_6 : Nat → Int32 → Int32 → Nm → Option (Bool × Nm)
  | 0, _, _, _ => none
  | f + 1, x2, x3, ν =>
    (if (4 : Int32) ≤ x3 then
      some (false, ν)
    else
      if inb (x2 + x3) 20 then
      (if ¬ (gi ν 278 (x2 + x3).toNatClampNeg) = 0 then
        if inb (x2 + x3) 20 then
        Rw_chooseNext_36 (Rw_chooseNext_6 f) x2 x3 ((2 : Int32) - (gi ν 279 (x2 + x3).toNatClampNeg)) ν
        else none
      else
        Rw_chooseNext_36 (Rw_chooseNext_6 f) x2 x3 (0 : Int32) ν)
      else none)
set_option maxRecDepth 100000 in
set_option maxHeartbeats 4000000 in
theorem t_Rw_chooseNext_6 {g : GG} {d : Nat} (hd0 : 1 ≤ d) : ∀ (f : Nat), ∀ (x2 : Int32) (x3 : Int32) (ν : Nm) (r : (Bool × Nm)), Rw_chooseNext_6 f x2 x3 ν = some r → Z g d (0, 0) mX4_chooseNext 333 0 0 6 [(0, .ref 276), (2, .int x2), (3, .int x3)] [] (zem ν) (zF g (some (.int (b2i r.1)), zem r.2)) := by
  intro f
  induction f with
  | zero =>
    intro x2 x3 ν r h
    cases h
  | succ f ih =>
    intro x2 x3 ν r h
    rw [Rw_chooseNext_6] at h
    refine z_iload_n dX4_chooseNext_6 2 rfl ?_
    refine z_iconst (M := mX4_chooseNext) (v := 4) dX4_chooseNext_7 rfl ?_
    refine z_icmp_ge 80 dX4_chooseNext_8 rfl (fun hc1 => ?_) (fun hc1 => ?_)
    · replace h := oT hc1 h
      refine z_iconst (M := mX4_chooseNext) (v := 0) dX4_chooseNext_80 rfl ?_
      cases h
      exact z_zret dX4_chooseNext_81 rfl rfl
    · replace h := oF hc1 h
      refine z_aload_n dX4_chooseNext_11 0 rfl ?_
      refine y_getR (M := mX4_chooseNext) (r := 278) dX4_chooseNext_12 zk_276 flRX4_15 fr_3_7.1 (fr_3_7.2 _) ?_
      refine z_iload_n dX4_chooseNext_15 1 rfl ?_
      refine z_iload_n dX4_chooseNext_16 2 rfl ?_
      refine z_iadd dX4_chooseNext_17 ?_
      obtain ⟨hi2, h⟩ := oif h
      refine y_iald (M := mX4_chooseNext) (jj := (x2 + x3).toNatClampNeg) dX4_chooseNext_18 zk_278 hi2 rfl ?_
      refine z_if_ne 26 dX4_chooseNext_19 rfl (fun hc3 => ?_) (fun hc3 => ?_)
      · replace h := oT hc3 h
        refine z_iconst (M := mX4_chooseNext) (v := 2) dX4_chooseNext_26 rfl ?_
        refine z_aload_n dX4_chooseNext_27 0 rfl ?_
        refine y_getR (M := mX4_chooseNext) (r := 279) dX4_chooseNext_28 zk_276 flRX4_19 fr_3_8.1 (fr_3_8.2 _) ?_
        refine z_iload_n dX4_chooseNext_31 1 rfl ?_
        refine z_iload_n dX4_chooseNext_32 2 rfl ?_
        refine z_iadd dX4_chooseNext_33 ?_
        obtain ⟨hi4, h⟩ := oif h
        refine y_iald (M := mX4_chooseNext) (jj := (x2 + x3).toNatClampNeg) dX4_chooseNext_34 zk_279 hi4 rfl ?_
        refine z_isub dX4_chooseNext_35 ?_
        exact t_Rw_chooseNext_36 hd0 ih x2 x3 ((2 : Int32) - (gi ν 279 (x2 + x3).toNatClampNeg)) ν _ h
      · replace h := oFn hc3 h
        refine z_iconst (M := mX4_chooseNext) (v := 0) dX4_chooseNext_22 rfl ?_
        refine z_goto 36 dX4_chooseNext_23 rfl ?_
        exact t_Rw_chooseNext_36 hd0 ih x2 x3 (0 : Int32) ν _ h
def Rw_chooseNext (x1 : Int32) (ν : Nm) : Option (Bool × Nm) :=
  Rw_chooseNext_6 FU (x1 * (4 : Int32)) (0 : Int32) ν
set_option maxRecDepth 100000 in
set_option maxHeartbeats 4000000 in
theorem t_Rw_chooseNext {g : GG} {d : Nat} (hd0 : 1 ≤ d) : ∀ (x1 : Int32) (ν : Nm) (r : (Bool × Nm)), Rw_chooseNext x1 ν = some r → Z g d (0, 0) mX4_chooseNext 333 0 0 0 [(0, .ref 276), (1, .int x1)] [] (zem ν) (zF g (some (.int (b2i r.1)), zem r.2)) := by
  intro x1 ν r h
  unfold Rw_chooseNext at h
  refine z_iload_n dX4_chooseNext_0 1 rfl ?_
  refine z_iconst (M := mX4_chooseNext) (v := 4) dX4_chooseNext_1 rfl ?_
  refine z_imul dX4_chooseNext_2 ?_
  refine z_istore_n (M := mX4_chooseNext) (lv2 := [(2, .int (x1 * (4 : Int32))), (0, .ref 276), (1, .int x1)]) dX4_chooseNext_3 (Nat.le_of_ble_eq_true rfl) rfl ?_
  refine z_iconst (M := mX4_chooseNext) (v := 0) dX4_chooseNext_4 rfl ?_
  refine z_istore_n (M := mX4_chooseNext) (lv2 := [(3, .int (0 : Int32)), (2, .int (x1 * (4 : Int32))), (0, .ref 276), (1, .int x1)]) dX4_chooseNext_5 (Nat.le_of_ble_eq_true rfl) rfl ?_
  refine z_lv (lv2 := [(0, .ref 276), (2, .int (x1 * (4 : Int32))), (3, .int (0 : Int32))]) [2, 1, 0] rfl ?_
  exact t_Rw_chooseNext_6 hd0 FU (x1 * (4 : Int32)) (0 : Int32) ν _ h
theorem ct_Rw_chooseNext {g : GG} {d : Nat} {x1 : Int32} {ν : Nm} {r : (Bool × Nm)} (hd0 : 1 ≤ d)  (h : Rw_chooseNext x1 ν = some r) : Ct g d mX4_chooseNext [.ref 276, .int x1] (zem ν) (some (.int (b2i r.1)), zem r.2) := y_entry in_X4_chooseNext (Nat.le_of_ble_eq_true rfl) rfl (t_Rw_chooseNext hd0 x1 ν r h)
-- FuseMinutes$Rows.walk(I)Z
theorem dX4_walk_0 : decode cX4_walk 0 = .ok (.iload_n 1, 1) := by decide +kernel
theorem dX4_walk_1 : decode cX4_walk 1 = .ok (.aload_n 0, 1) := by decide +kernel
theorem dX4_walk_2 : decode cX4_walk 2 = .ok (.getfield 88, 3) := by decide +kernel
theorem dX4_walk_5 : decode cX4_walk 5 = .ok (.if_icmp .ge 8, 3) := by decide +kernel
theorem dX4_walk_8 : decode cX4_walk 8 = .ok (.iload_n 1, 1) := by decide +kernel
theorem dX4_walk_9 : decode cX4_walk 9 = .ok (.iconst 4, 1) := by decide +kernel
theorem dX4_walk_10 : decode cX4_walk 10 = .ok (.if_icmp .lt 5, 3) := by decide +kernel
theorem dX4_walk_13 : decode cX4_walk 13 = .ok (.iconst 0, 1) := by decide +kernel
theorem dX4_walk_14 : decode cX4_walk 14 = .ok (.ireturn, 1) := by decide +kernel
theorem dX4_walk_15 : decode cX4_walk 15 = .ok (.iconst 0, 1) := by decide +kernel
theorem dX4_walk_16 : decode cX4_walk 16 = .ok (.istore_n 2, 1) := by decide +kernel
theorem dX4_walk_17 : decode cX4_walk 17 = .ok (.iload_n 2, 1) := by decide +kernel
theorem dX4_walk_18 : decode cX4_walk 18 = .ok (.iconst 4, 1) := by decide +kernel
theorem dX4_walk_19 : decode cX4_walk 19 = .ok (.if_icmp .ge 20, 3) := by decide +kernel
theorem dX4_walk_22 : decode cX4_walk 22 = .ok (.aload_n 0, 1) := by decide +kernel
theorem dX4_walk_23 : decode cX4_walk 23 = .ok (.getfield 22, 3) := by decide +kernel
theorem dX4_walk_26 : decode cX4_walk 26 = .ok (.iload_n 1, 1) := by decide +kernel
theorem dX4_walk_27 : decode cX4_walk 27 = .ok (.iconst 4, 1) := by decide +kernel
theorem dX4_walk_28 : decode cX4_walk 28 = .ok (.imul, 1) := by decide +kernel
theorem dX4_walk_29 : decode cX4_walk 29 = .ok (.iload_n 2, 1) := by decide +kernel
theorem dX4_walk_30 : decode cX4_walk 30 = .ok (.iadd, 1) := by decide +kernel
theorem dX4_walk_31 : decode cX4_walk 31 = .ok (.iconst 0, 1) := by decide +kernel
theorem dX4_walk_32 : decode cX4_walk 32 = .ok (.iastore, 1) := by decide +kernel
theorem dX4_walk_33 : decode cX4_walk 33 = .ok (.iinc 2 1, 3) := by decide +kernel
theorem dX4_walk_36 : decode cX4_walk 36 = .ok (.goto (-19), 3) := by decide +kernel
theorem dX4_walk_39 : decode cX4_walk 39 = .ok (.iconst 0, 1) := by decide +kernel
theorem dX4_walk_40 : decode cX4_walk 40 = .ok (.istore_n 2, 1) := by decide +kernel
theorem dX4_walk_41 : decode cX4_walk 41 = .ok (.iload_n 2, 1) := by decide +kernel
theorem dX4_walk_42 : decode cX4_walk 42 = .ok (.bipush 81, 2) := by decide +kernel
theorem dX4_walk_44 : decode cX4_walk 44 = .ok (.if_icmp .ge 49, 3) := by decide +kernel
theorem dX4_walk_47 : decode cX4_walk 47 = .ok (.aload_n 0, 1) := by decide +kernel
theorem dX4_walk_48 : decode cX4_walk 48 = .ok (.iload_n 1, 1) := by decide +kernel
theorem dX4_walk_49 : decode cX4_walk 49 = .ok (.invokevirtual 91, 3) := by decide +kernel
theorem dX4_walk_52 : decode cX4_walk 52 = .ok (.ifCond .eq 25, 3) := by decide +kernel
theorem dX4_walk_55 : decode cX4_walk 55 = .ok (.aload_n 0, 1) := by decide +kernel
theorem dX4_walk_56 : decode cX4_walk 56 = .ok (.iload_n 1, 1) := by decide +kernel
theorem dX4_walk_57 : decode cX4_walk 57 = .ok (.iconst 1, 1) := by decide +kernel
theorem dX4_walk_58 : decode cX4_walk 58 = .ok (.iadd, 1) := by decide +kernel
theorem dX4_walk_59 : decode cX4_walk 59 = .ok (.invokevirtual 94, 3) := by decide +kernel
theorem dX4_walk_62 : decode cX4_walk 62 = .ok (.ifCond .ne 13, 3) := by decide +kernel
theorem dX4_walk_65 : decode cX4_walk 65 = .ok (.aload_n 0, 1) := by decide +kernel
theorem dX4_walk_66 : decode cX4_walk 66 = .ok (.iload_n 1, 1) := by decide +kernel
theorem dX4_walk_67 : decode cX4_walk 67 = .ok (.iconst 1, 1) := by decide +kernel
theorem dX4_walk_68 : decode cX4_walk 68 = .ok (.iadd, 1) := by decide +kernel
theorem dX4_walk_69 : decode cX4_walk 69 = .ok (.invokevirtual 67, 3) := by decide +kernel
theorem dX4_walk_72 : decode cX4_walk 72 = .ok (.ifCond .eq 5, 3) := by decide +kernel
theorem dX4_walk_75 : decode cX4_walk 75 = .ok (.iconst 1, 1) := by decide +kernel
theorem dX4_walk_76 : decode cX4_walk 76 = .ok (.ireturn, 1) := by decide +kernel
theorem dX4_walk_77 : decode cX4_walk 77 = .ok (.aload_n 0, 1) := by decide +kernel
theorem dX4_walk_78 : decode cX4_walk 78 = .ok (.iload_n 1, 1) := by decide +kernel
theorem dX4_walk_79 : decode cX4_walk 79 = .ok (.invokevirtual 97, 3) := by decide +kernel
theorem dX4_walk_82 : decode cX4_walk 82 = .ok (.ifCond .ne 5, 3) := by decide +kernel
theorem dX4_walk_85 : decode cX4_walk 85 = .ok (.iconst 0, 1) := by decide +kernel
theorem dX4_walk_86 : decode cX4_walk 86 = .ok (.ireturn, 1) := by decide +kernel
theorem dX4_walk_87 : decode cX4_walk 87 = .ok (.iinc 2 1, 3) := by decide +kernel
theorem dX4_walk_90 : decode cX4_walk 90 = .ok (.goto (-49), 3) := by decide +kernel
theorem dX4_walk_93 : decode cX4_walk 93 = .ok (.iconst 0, 1) := by decide +kernel
theorem dX4_walk_94 : decode cX4_walk 94 = .ok (.ireturn, 1) := by decide +kernel
def Rw_walk_77 (rc : Nat → Int32 → Nm → Option (Bool × Nm)) (k41 : Int32 → Int32 → Nm → Option (Bool × Nm)) (x1 : Int32) (x2 : Int32) (ν : Nm) : Option (Bool × Nm) :=
  (Rw_chooseNext x1 ν).bind fun v1 =>
  (if ¬ (b2i v1.1) = 0 then
    k41 x1 (x2 + (1 : Int32)) v1.2
  else
    some (false, v1.2))
set_option maxRecDepth 100000 in
set_option maxHeartbeats 4000000 in
theorem t_Rw_walk_77 {g : GG} {d : Nat} {d2 : Nat} {rc : Nat → Int32 → Nm → Option (Bool × Nm)} (hb0 : 3 ≤ d2) (hr0 : ∀ (a0 : Int32) (ν : Nm) (r : (Bool × Nm)), rc 0 a0 ν = some r → Ct g d2 mX4_walk [.ref 276, .int a0] (zem ν) (some (.int (b2i r.1)), zem r.2)) (hd0 : d2 + 1 ≤ d) {k41 : Int32 → Int32 → Nm → Option (Bool × Nm)} (hk41 : ∀ (x1 : Int32) (x2 : Int32) (ν : Nm) (r : (Bool × Nm)), k41 x1 x2 ν = some r → Z g d (0, 0) mX4_walk 333 0 0 41 [(0, .ref 276), (1, .int x1), (2, .int x2)] [] (zem ν) (zF g (some (.int (b2i r.1)), zem r.2))) : ∀ (x1 : Int32) (x2 : Int32) (ν : Nm) (r : (Bool × Nm)), Rw_walk_77 rc k41 x1 x2 ν = some r → Z g d (0, 0) mX4_walk 333 0 0 77 [(0, .ref 276), (1, .int x1), (2, .int x2)] [] (zem ν) (zF g (some (.int (b2i r.1)), zem r.2)) := by
  intro x1 x2 ν r h
  unfold Rw_walk_77 at h
  refine z_aload_n dX4_walk_77 0 rfl ?_
  refine z_iload_n dX4_walk_78 1 rfl ?_
  obtain ⟨v1, he1, h⟩ := obind h
  refine y_Vi (M := mX4_walk) (Y := mX4_chooseNext) (d2 := d - 1) (As := [.int x1]) (st := []) dX4_walk_79 mlRX4_97 cv_X4_chooseNext zk_276 (ct_Rw_chooseNext (by omega) he1) (by omega) rfl rfl (Nat.le_of_ble_eq_true rfl) ?_
  refine z_if_ne 87 dX4_walk_82 rfl (fun hc2 => ?_) (fun hc2 => ?_)
  · replace h := oT hc2 h
    refine z_iinc (M := mX4_walk) (v := (x2 + (1 : Int32))) (lv2 := [(2, .int (x2 + (1 : Int32))), (0, .ref 276), (1, .int x1)]) dX4_walk_87 2 rfl rfl (Nat.le_of_ble_eq_true rfl) rfl ?_
    refine z_goto 41 dX4_walk_90 rfl ?_
    refine z_lv (lv2 := [(0, .ref 276), (1, .int x1), (2, .int (x2 + (1 : Int32)))]) [1, 2, 0] rfl ?_
    exact hk41 x1 (x2 + (1 : Int32)) v1.2 _ h
  · replace h := oFn hc2 h
    refine z_iconst (M := mX4_walk) (v := 0) dX4_walk_85 rfl ?_
    cases h
    exact z_zret dX4_walk_86 rfl rfl
def Rw_walk_41 (rc : Nat → Int32 → Nm → Option (Bool × Nm)) : Nat → Int32 → Int32 → Nm → Option (Bool × Nm)
  | 0, _, _, _ => none
  | f + 1, x1, x2, ν =>
    (if (81 : Int32) ≤ x2 then
      some (false, ν)
    else
      (Rw_burnOn x1 ν).bind fun v2 =>
      (if (b2i v2.1) = 0 then
        Rw_walk_77 rc (Rw_walk_41 rc f) x1 x2 v2.2
      else
        (Rw_arrive (x1 + (1 : Int32)) v2.2).bind fun v4 =>
        (if ¬ (b2i v4.1) = 0 then
          some (true, v4.2)
        else
          (rc 0 (x1 + (1 : Int32)) v4.2).bind fun v6 =>
          (if (b2i v6.1) = 0 then
            Rw_walk_77 rc (Rw_walk_41 rc f) x1 x2 v6.2
          else
            some (true, v6.2)))))
set_option maxRecDepth 100000 in
set_option maxHeartbeats 4000000 in
theorem t_Rw_walk_41 {g : GG} {d : Nat} {d2 : Nat} {rc : Nat → Int32 → Nm → Option (Bool × Nm)} (hb0 : 3 ≤ d2) (hr0 : ∀ (a0 : Int32) (ν : Nm) (r : (Bool × Nm)), rc 0 a0 ν = some r → Ct g d2 mX4_walk [.ref 276, .int a0] (zem ν) (some (.int (b2i r.1)), zem r.2)) (hd0 : d2 + 1 ≤ d) : ∀ (f : Nat), ∀ (x1 : Int32) (x2 : Int32) (ν : Nm) (r : (Bool × Nm)), Rw_walk_41 rc f x1 x2 ν = some r → Z g d (0, 0) mX4_walk 333 0 0 41 [(0, .ref 276), (1, .int x1), (2, .int x2)] [] (zem ν) (zF g (some (.int (b2i r.1)), zem r.2)) := by
  intro f
  induction f with
  | zero =>
    intro x1 x2 ν r h
    cases h
  | succ f ih =>
    intro x1 x2 ν r h
    rw [Rw_walk_41] at h
    refine z_iload_n dX4_walk_41 2 rfl ?_
    refine z_bipush (M := mX4_walk) (v := 81) dX4_walk_42 rfl ?_
    refine z_icmp_ge 93 dX4_walk_44 rfl (fun hc1 => ?_) (fun hc1 => ?_)
    · replace h := oT hc1 h
      refine z_iconst (M := mX4_walk) (v := 0) dX4_walk_93 rfl ?_
      cases h
      exact z_zret dX4_walk_94 rfl rfl
    · replace h := oF hc1 h
      refine z_aload_n dX4_walk_47 0 rfl ?_
      refine z_iload_n dX4_walk_48 1 rfl ?_
      obtain ⟨v2, he2, h⟩ := obind h
      refine y_Vi (M := mX4_walk) (Y := mX4_burnOn) (d2 := d - 1) (As := [.int x1]) (st := []) dX4_walk_49 mlRX4_91 cv_X4_burnOn zk_276 (ct_Rw_burnOn (by omega) he2) (by omega) rfl rfl (Nat.le_of_ble_eq_true rfl) ?_
      refine z_if_eq 77 dX4_walk_52 rfl (fun hc3 => ?_) (fun hc3 => ?_)
      · replace h := oT hc3 h
        exact t_Rw_walk_77 hb0 hr0 hd0 ih x1 x2 v2.2 _ h
      · replace h := oF hc3 h
        refine z_aload_n dX4_walk_55 0 rfl ?_
        refine z_iload_n dX4_walk_56 1 rfl ?_
        refine z_iconst (M := mX4_walk) (v := 1) dX4_walk_57 rfl ?_
        refine z_iadd dX4_walk_58 ?_
        obtain ⟨v4, he4, h⟩ := obind h
        refine y_Vi (M := mX4_walk) (Y := mX4_arrive) (d2 := d - 1) (As := [.int (x1 + (1 : Int32))]) (st := []) dX4_walk_59 mlRX4_94 cv_X4_arrive zk_276 (ct_Rw_arrive (by omega) he4) (by omega) rfl rfl (Nat.le_of_ble_eq_true rfl) ?_
        refine z_if_ne 75 dX4_walk_62 rfl (fun hc5 => ?_) (fun hc5 => ?_)
        · replace h := oT hc5 h
          refine z_iconst (M := mX4_walk) (v := 1) dX4_walk_75 rfl ?_
          cases h
          exact z_zret dX4_walk_76 rfl rfl
        · replace h := oFn hc5 h
          refine z_aload_n dX4_walk_65 0 rfl ?_
          refine z_iload_n dX4_walk_66 1 rfl ?_
          refine z_iconst (M := mX4_walk) (v := 1) dX4_walk_67 rfl ?_
          refine z_iadd dX4_walk_68 ?_
          obtain ⟨v6, he6, h⟩ := obind h
          refine y_Vi (M := mX4_walk) (Y := mX4_walk) (d2 := d2) (As := [.int (x1 + (1 : Int32))]) (st := []) dX4_walk_69 mlRX4_67 cv_X4_walk zk_276 (hr0 (x1 + (1 : Int32)) v4.2 _ he6) (by omega) rfl rfl (Nat.le_of_ble_eq_true rfl) ?_
          refine z_if_eq 77 dX4_walk_72 rfl (fun hc7 => ?_) (fun hc7 => ?_)
          · replace h := oT hc7 h
            exact t_Rw_walk_77 hb0 hr0 hd0 ih x1 x2 v6.2 _ h
          · replace h := oF hc7 h
            refine z_iconst (M := mX4_walk) (v := 1) dX4_walk_75 rfl ?_
            cases h
            exact z_zret dX4_walk_76 rfl rfl
def Rw_walk_17 (rc : Nat → Int32 → Nm → Option (Bool × Nm)) : Nat → Int32 → Int32 → Nm → Option (Bool × Nm)
  | 0, _, _, _ => none
  | f + 1, x1, x2, ν =>
    (if (4 : Int32) ≤ x2 then
      Rw_walk_41 rc FU x1 (0 : Int32) ν
    else
      if inb ((x1 * (4 : Int32)) + x2) 20 then
      (Rw_walk_17 rc f) x1 (x2 + (1 : Int32)) (si ν 280 ((x1 * (4 : Int32)) + x2).toNatClampNeg (0 : Int32))
      else none)
set_option maxRecDepth 100000 in
set_option maxHeartbeats 4000000 in
theorem t_Rw_walk_17 {g : GG} {d : Nat} {d2 : Nat} {rc : Nat → Int32 → Nm → Option (Bool × Nm)} (hb0 : 3 ≤ d2) (hr0 : ∀ (a0 : Int32) (ν : Nm) (r : (Bool × Nm)), rc 0 a0 ν = some r → Ct g d2 mX4_walk [.ref 276, .int a0] (zem ν) (some (.int (b2i r.1)), zem r.2)) (hd0 : d2 + 1 ≤ d) : ∀ (f : Nat), ∀ (x1 : Int32) (x2 : Int32) (ν : Nm) (r : (Bool × Nm)), Rw_walk_17 rc f x1 x2 ν = some r → Z g d (0, 0) mX4_walk 333 0 0 17 [(0, .ref 276), (1, .int x1), (2, .int x2)] [] (zem ν) (zF g (some (.int (b2i r.1)), zem r.2)) := by
  intro f
  induction f with
  | zero =>
    intro x1 x2 ν r h
    cases h
  | succ f ih =>
    intro x1 x2 ν r h
    rw [Rw_walk_17] at h
    refine z_iload_n dX4_walk_17 2 rfl ?_
    refine z_iconst (M := mX4_walk) (v := 4) dX4_walk_18 rfl ?_
    refine z_icmp_ge 39 dX4_walk_19 rfl (fun hc1 => ?_) (fun hc1 => ?_)
    · replace h := oT hc1 h
      refine z_iconst (M := mX4_walk) (v := 0) dX4_walk_39 rfl ?_
      refine z_istore_n (M := mX4_walk) (lv2 := [(2, .int (0 : Int32)), (0, .ref 276), (1, .int x1)]) dX4_walk_40 (Nat.le_of_ble_eq_true rfl) rfl ?_
      refine z_lv (lv2 := [(0, .ref 276), (1, .int x1), (2, .int (0 : Int32))]) [1, 2, 0] rfl ?_
      exact t_Rw_walk_41 hb0 hr0 hd0 FU x1 (0 : Int32) ν _ h
    · replace h := oF hc1 h
      refine z_aload_n dX4_walk_22 0 rfl ?_
      refine y_getR (M := mX4_walk) (r := 280) dX4_walk_23 zk_276 flRX4_22 fr_3_9.1 (fr_3_9.2 _) ?_
      refine z_iload_n dX4_walk_26 1 rfl ?_
      refine z_iconst (M := mX4_walk) (v := 4) dX4_walk_27 rfl ?_
      refine z_imul dX4_walk_28 ?_
      refine z_iload_n dX4_walk_29 2 rfl ?_
      refine z_iadd dX4_walk_30 ?_
      refine z_iconst (M := mX4_walk) (v := 0) dX4_walk_31 rfl ?_
      obtain ⟨hi2, h⟩ := oif h
      refine y_iast (M := mX4_walk) (jj := ((x1 * (4 : Int32)) + x2).toNatClampNeg) dX4_walk_32 zk_280 hi2 rfl ?_
      refine z_iinc (M := mX4_walk) (v := (x2 + (1 : Int32))) (lv2 := [(2, .int (x2 + (1 : Int32))), (0, .ref 276), (1, .int x1)]) dX4_walk_33 2 rfl rfl (Nat.le_of_ble_eq_true rfl) rfl ?_
      refine z_goto 17 dX4_walk_36 rfl ?_
      refine z_lv (lv2 := [(0, .ref 276), (1, .int x1), (2, .int (x2 + (1 : Int32)))]) [1, 2, 0] rfl ?_
      exact ih x1 (x2 + (1 : Int32)) (si ν 280 ((x1 * (4 : Int32)) + x2).toNatClampNeg (0 : Int32)) _ h
def Rw_walk (rc : Nat → Int32 → Nm → Option (Bool × Nm)) (x1 : Int32) (ν : Nm) : Option (Bool × Nm) :=
  (if (gi ν 276 13) ≤ x1 then
    some (false, ν)
  else
    (if x1 < (4 : Int32) then
      Rw_walk_17 rc FU x1 (0 : Int32) ν
    else
      some (false, ν)))
set_option maxRecDepth 100000 in
set_option maxHeartbeats 4000000 in
theorem t_Rw_walk {g : GG} {d : Nat} {d2 : Nat} {rc : Nat → Int32 → Nm → Option (Bool × Nm)} (hb0 : 3 ≤ d2) (hr0 : ∀ (a0 : Int32) (ν : Nm) (r : (Bool × Nm)), rc 0 a0 ν = some r → Ct g d2 mX4_walk [.ref 276, .int a0] (zem ν) (some (.int (b2i r.1)), zem r.2)) (hd0 : d2 + 1 ≤ d) : ∀ (x1 : Int32) (ν : Nm) (r : (Bool × Nm)), Rw_walk rc x1 ν = some r → Z g d (0, 0) mX4_walk 333 0 0 0 [(0, .ref 276), (1, .int x1)] [] (zem ν) (zF g (some (.int (b2i r.1)), zem r.2)) := by
  intro x1 ν r h
  unfold Rw_walk at h
  refine z_iload_n dX4_walk_0 1 rfl ?_
  refine z_aload_n dX4_walk_1 0 rfl ?_
  refine y_getI dX4_walk_2 zk_276 flRX4_88 ?_
  refine z_icmp_ge 13 dX4_walk_5 rfl (fun hc1 => ?_) (fun hc1 => ?_)
  · replace h := oT hc1 h
    refine z_iconst (M := mX4_walk) (v := 0) dX4_walk_13 rfl ?_
    cases h
    exact z_zret dX4_walk_14 rfl rfl
  · replace h := oF hc1 h
    refine z_iload_n dX4_walk_8 1 rfl ?_
    refine z_iconst (M := mX4_walk) (v := 4) dX4_walk_9 rfl ?_
    refine z_icmp_lt 15 dX4_walk_10 rfl (fun hc2 => ?_) (fun hc2 => ?_)
    · replace h := oT hc2 h
      refine z_iconst (M := mX4_walk) (v := 0) dX4_walk_15 rfl ?_
      refine z_istore_n (M := mX4_walk) (lv2 := [(2, .int (0 : Int32)), (0, .ref 276), (1, .int x1)]) dX4_walk_16 (Nat.le_of_ble_eq_true rfl) rfl ?_
      refine z_lv (lv2 := [(0, .ref 276), (1, .int x1), (2, .int (0 : Int32))]) [1, 2, 0] rfl ?_
      exact t_Rw_walk_17 hb0 hr0 hd0 FU x1 (0 : Int32) ν _ h
    · replace h := oF hc2 h
      refine z_iconst (M := mX4_walk) (v := 0) dX4_walk_13 rfl ?_
      cases h
      exact z_zret dX4_walk_14 rfl rfl
theorem ct_Rw_walk_o {g : GG} {d : Nat} {x1 : Int32} {ν : Nm} {r : (Bool × Nm)} {d2 : Nat} {rc : Nat → Int32 → Nm → Option (Bool × Nm)} (hb0 : 3 ≤ d2) (hr0 : ∀ (a0 : Int32) (ν : Nm) (r : (Bool × Nm)), rc 0 a0 ν = some r → Ct g d2 mX4_walk [.ref 276, .int a0] (zem ν) (some (.int (b2i r.1)), zem r.2)) (hd0 : d2 + 1 ≤ d)  (h : Rw_walk rc x1 ν = some r) : Ct g d mX4_walk [.ref 276, .int x1] (zem ν) (some (.int (b2i r.1)), zem r.2) := y_entry in_X4_walk (Nat.le_of_ble_eq_true rfl) rfl (t_Rw_walk hb0 hr0 hd0 x1 ν r h)
def G_wk : Nat → Nat → Int32 → Nm → Option (Bool × Nm)
  | 0, _, _, _ => none
  | f + 1, t, a0, ν => if t = 0 then Rw_walk (G_wk f) a0 ν else none
theorem g_wk {g : GG} : ∀ (f d : Nat), 3 + f ≤ d → (∀ (a0 : Int32) (ν : Nm) (r : (Bool × Nm)), G_wk f 0 a0 ν = some r → Ct g d mX4_walk [.ref 276, .int a0] (zem ν) (some (.int (b2i r.1)), zem r.2)) := by
  intro f
  induction f with
  | zero =>
    intro d _
    · intro a0 ν r h
      cases h
  | succ f ih =>
    intro d hd
    obtain i0 := ih (d - 1) (by omega)
    · intro a0 ν r h
      exact ct_Rw_walk_o (d2 := d - 1) (rc := G_wk f) (by omega) i0 (by omega) (by simpa [G_wk] using h)
theorem ct_Rw_walk {g : GG} {d : Nat} {a0 : Int32} {ν : Nm} {r : (Bool × Nm)} (hd0 : 203 ≤ d) (h : G_wk FR 0 a0 ν = some r) : Ct g d mX4_walk [.ref 276, .int a0] (zem ν) (some (.int (b2i r.1)), zem r.2) := (g_wk FR d (by unfold FR; omega)) a0 ν r h
-- FuseMinutes$Rows.learn(I)V
theorem dX4_learn_0 : decode cX4_learn 0 = .ok (.aload_n 0, 1) := by decide +kernel
theorem dX4_learn_1 : decode cX4_learn 1 = .ok (.getfield 35, 3) := by decide +kernel
theorem dX4_learn_4 : decode cX4_learn 4 = .ok (.iload_n 1, 1) := by decide +kernel
theorem dX4_learn_5 : decode cX4_learn 5 = .ok (.ishr, 1) := by decide +kernel
theorem dX4_learn_6 : decode cX4_learn 6 = .ok (.iconst 1, 1) := by decide +kernel
theorem dX4_learn_7 : decode cX4_learn 7 = .ok (.iand, 1) := by decide +kernel
theorem dX4_learn_8 : decode cX4_learn 8 = .ok (.ifCond .eq 4, 3) := by decide +kernel
theorem dX4_learn_11 : decode cX4_learn 11 = .ok (.return_, 1) := by decide +kernel
theorem dX4_learn_12 : decode cX4_learn 12 = .ok (.iconst 0, 1) := by decide +kernel
theorem dX4_learn_13 : decode cX4_learn 13 = .ok (.istore_n 2, 1) := by decide +kernel
theorem dX4_learn_14 : decode cX4_learn 14 = .ok (.iload_n 2, 1) := by decide +kernel
theorem dX4_learn_15 : decode cX4_learn 15 = .ok (.sipush 241, 3) := by decide +kernel
theorem dX4_learn_18 : decode cX4_learn 18 = .ok (.if_icmp .ge 22, 3) := by decide +kernel
theorem dX4_learn_21 : decode cX4_learn 21 = .ok (.aload_n 0, 1) := by decide +kernel
theorem dX4_learn_22 : decode cX4_learn 22 = .ok (.getfield 9, 3) := by decide +kernel
theorem dX4_learn_25 : decode cX4_learn 25 = .ok (.iload_n 1, 1) := by decide +kernel
theorem dX4_learn_26 : decode cX4_learn 26 = .ok (.sipush 241, 3) := by decide +kernel
theorem dX4_learn_29 : decode cX4_learn 29 = .ok (.imul, 1) := by decide +kernel
theorem dX4_learn_30 : decode cX4_learn 30 = .ok (.iload_n 2, 1) := by decide +kernel
theorem dX4_learn_31 : decode cX4_learn 31 = .ok (.iadd, 1) := by decide +kernel
theorem dX4_learn_32 : decode cX4_learn 32 = .ok (.lconst 0, 1) := by decide +kernel
theorem dX4_learn_33 : decode cX4_learn 33 = .ok (.lastore, 1) := by decide +kernel
theorem dX4_learn_34 : decode cX4_learn 34 = .ok (.iinc 2 1, 3) := by decide +kernel
theorem dX4_learn_37 : decode cX4_learn 37 = .ok (.goto (-23), 3) := by decide +kernel
theorem dX4_learn_40 : decode cX4_learn 40 = .ok (.aload_n 0, 1) := by decide +kernel
theorem dX4_learn_41 : decode cX4_learn 41 = .ok (.iload_n 1, 1) := by decide +kernel
theorem dX4_learn_42 : decode cX4_learn 42 = .ok (.iconst 0, 1) := by decide +kernel
theorem dX4_learn_43 : decode cX4_learn 43 = .ok (.iconst 4, 1) := by decide +kernel
theorem dX4_learn_44 : decode cX4_learn 44 = .ok (.invokevirtual 63, 3) := by decide +kernel
theorem dX4_learn_47 : decode cX4_learn 47 = .ok (.aload_n 0, 1) := by decide +kernel
theorem dX4_learn_48 : decode cX4_learn 48 = .ok (.iconst 0, 1) := by decide +kernel
theorem dX4_learn_49 : decode cX4_learn 49 = .ok (.invokevirtual 67, 3) := by decide +kernel
theorem dX4_learn_52 : decode cX4_learn 52 = .ok (.pop, 1) := by decide +kernel
theorem dX4_learn_53 : decode cX4_learn 53 = .ok (.aload_n 0, 1) := by decide +kernel
theorem dX4_learn_54 : decode cX4_learn 54 = .ok (.dup, 1) := by decide +kernel
theorem dX4_learn_55 : decode cX4_learn 55 = .ok (.getfield 35, 3) := by decide +kernel
theorem dX4_learn_58 : decode cX4_learn 58 = .ok (.iconst 1, 1) := by decide +kernel
theorem dX4_learn_59 : decode cX4_learn 59 = .ok (.iload_n 1, 1) := by decide +kernel
theorem dX4_learn_60 : decode cX4_learn 60 = .ok (.ishl, 1) := by decide +kernel
theorem dX4_learn_61 : decode cX4_learn 61 = .ok (.ior, 1) := by decide +kernel
theorem dX4_learn_62 : decode cX4_learn 62 = .ok (.putfield 35, 3) := by decide +kernel
theorem dX4_learn_65 : decode cX4_learn 65 = .ok (.return_, 1) := by decide +kernel
def Rw_learn_14 : Nat → Int32 → Int32 → Nm → Option Nm
  | 0, _, _, _ => none
  | f + 1, x1, x2, ν =>
    (if (241 : Int32) ≤ x2 then
      (Rw_begin x1 (0 : Int32) (4 : Int32) ν).bind fun v2 =>
      (G_wk FR 0 (0 : Int32) v2).bind fun v3 =>
      some (si v3.2 276 4 ((gi v3.2 276 4) ||| ((1 : Int32) <<< (x1 &&& 31))))
    else
      if inb ((x1 * (241 : Int32)) + x2) 3856 then
      (Rw_learn_14 f) x1 (x2 + (1 : Int32)) (sl ν 277 ((x1 * (241 : Int32)) + x2).toNatClampNeg (0 : Int64))
      else none)
set_option maxRecDepth 100000 in
set_option maxHeartbeats 4000000 in
theorem t_Rw_learn_14 {g : GG} {d : Nat} (hd0 : 204 ≤ d) : ∀ (f : Nat), ∀ (x1 : Int32) (x2 : Int32) (ν : Nm) (r : Nm), Rw_learn_14 f x1 x2 ν = some r → Z g d (0, 0) mX4_learn 333 0 0 14 [(0, .ref 276), (1, .int x1), (2, .int x2)] [] (zem ν) (zF g (none, zem r)) := by
  intro f
  induction f with
  | zero =>
    intro x1 x2 ν r h
    cases h
  | succ f ih =>
    intro x1 x2 ν r h
    rw [Rw_learn_14] at h
    refine z_iload_n dX4_learn_14 2 rfl ?_
    refine z_sipush (M := mX4_learn) (v := 241) dX4_learn_15 rfl ?_
    refine z_icmp_ge 40 dX4_learn_18 rfl (fun hc1 => ?_) (fun hc1 => ?_)
    · replace h := oT hc1 h
      refine z_aload_n dX4_learn_40 0 rfl ?_
      refine z_iload_n dX4_learn_41 1 rfl ?_
      refine z_iconst (M := mX4_learn) (v := 0) dX4_learn_42 rfl ?_
      refine z_iconst (M := mX4_learn) (v := 4) dX4_learn_43 rfl ?_
      obtain ⟨v2, he2, h⟩ := obind h
      refine y_Vv (M := mX4_learn) (Y := mX4_begin) (d2 := d - 1) (As := [.int x1, .int (0 : Int32), .int (4 : Int32)]) (st := []) dX4_learn_44 mlRX4_63 cv_X4_begin zk_276 (ct_Rw_begin (dle (Nat.le_of_ble_eq_true rfl) hd0) he2) (dps (Nat.le_of_ble_eq_true rfl) hd0) rfl rfl (Nat.le_of_ble_eq_true rfl) ?_
      refine z_aload_n dX4_learn_47 0 rfl ?_
      refine z_iconst (M := mX4_learn) (v := 0) dX4_learn_48 rfl ?_
      obtain ⟨v3, he3, h⟩ := obind h
      refine y_Vi (M := mX4_learn) (Y := mX4_walk) (d2 := d - 1) (As := [.int (0 : Int32)]) (st := []) dX4_learn_49 mlRX4_67 cv_X4_walk zk_276 (ct_Rw_walk (dle (Nat.le_of_ble_eq_true rfl) hd0) he3) (dps (Nat.le_of_ble_eq_true rfl) hd0) rfl rfl (Nat.le_of_ble_eq_true rfl) ?_
      refine z_pop dX4_learn_52 rfl ?_
      refine z_aload_n dX4_learn_53 0 rfl ?_
      refine z_dup dX4_learn_54 rfl ?_
      refine y_getI dX4_learn_55 zk_276 flRX4_35 ?_
      refine z_iconst (M := mX4_learn) (v := 1) dX4_learn_58 rfl ?_
      refine z_iload_n dX4_learn_59 1 rfl ?_
      refine z_ishl dX4_learn_60 ?_
      refine z_ior dX4_learn_61 ?_
      refine y_putI dX4_learn_62 zk_276 flRX4_35 ⟨rfl, rfl⟩ ?_
      cases h
      exact z_vret dX4_learn_65 rfl
    · replace h := oF hc1 h
      refine z_aload_n dX4_learn_21 0 rfl ?_
      refine y_getR (M := mX4_learn) (r := 277) dX4_learn_22 zk_276 flRX4_9 fr_3_3.1 (fr_3_3.2 _) ?_
      refine z_iload_n dX4_learn_25 1 rfl ?_
      refine z_sipush (M := mX4_learn) (v := 241) dX4_learn_26 rfl ?_
      refine z_imul dX4_learn_29 ?_
      refine z_iload_n dX4_learn_30 2 rfl ?_
      refine z_iadd dX4_learn_31 ?_
      refine z_lconst (M := mX4_learn) (v := 0) dX4_learn_32 rfl ?_
      obtain ⟨hi4, h⟩ := oif h
      refine y_last (M := mX4_learn) (jj := ((x1 * (241 : Int32)) + x2).toNatClampNeg) dX4_learn_33 zk_277 hi4 rfl ?_
      refine z_iinc (M := mX4_learn) (v := (x2 + (1 : Int32))) (lv2 := [(2, .int (x2 + (1 : Int32))), (0, .ref 276), (1, .int x1)]) dX4_learn_34 2 rfl rfl (Nat.le_of_ble_eq_true rfl) rfl ?_
      refine z_goto 14 dX4_learn_37 rfl ?_
      refine z_lv (lv2 := [(0, .ref 276), (1, .int x1), (2, .int (x2 + (1 : Int32)))]) [1, 2, 0] rfl ?_
      exact ih x1 (x2 + (1 : Int32)) (sl ν 277 ((x1 * (241 : Int32)) + x2).toNatClampNeg (0 : Int64)) _ h
def Rw_learn (x1 : Int32) (ν : Nm) : Option Nm :=
  (if (((gi ν 276 4) >>> (x1 &&& 31)) &&& (1 : Int32)) = 0 then
    Rw_learn_14 FU x1 (0 : Int32) ν
  else
    some ν)
set_option maxRecDepth 100000 in
set_option maxHeartbeats 4000000 in
theorem t_Rw_learn {g : GG} {d : Nat} (hd0 : 204 ≤ d) : ∀ (x1 : Int32) (ν : Nm) (r : Nm), Rw_learn x1 ν = some r → Z g d (0, 0) mX4_learn 333 0 0 0 [(0, .ref 276), (1, .int x1)] [] (zem ν) (zF g (none, zem r)) := by
  intro x1 ν r h
  unfold Rw_learn at h
  refine z_aload_n dX4_learn_0 0 rfl ?_
  refine y_getI dX4_learn_1 zk_276 flRX4_35 ?_
  refine z_iload_n dX4_learn_4 1 rfl ?_
  refine z_ishr dX4_learn_5 ?_
  refine z_iconst (M := mX4_learn) (v := 1) dX4_learn_6 rfl ?_
  refine z_iand dX4_learn_7 ?_
  refine z_if_eq 12 dX4_learn_8 rfl (fun hc1 => ?_) (fun hc1 => ?_)
  · replace h := oT hc1 h
    refine z_iconst (M := mX4_learn) (v := 0) dX4_learn_12 rfl ?_
    refine z_istore_n (M := mX4_learn) (lv2 := [(2, .int (0 : Int32)), (0, .ref 276), (1, .int x1)]) dX4_learn_13 (Nat.le_of_ble_eq_true rfl) rfl ?_
    refine z_lv (lv2 := [(0, .ref 276), (1, .int x1), (2, .int (0 : Int32))]) [1, 2, 0] rfl ?_
    exact t_Rw_learn_14 hd0 FU x1 (0 : Int32) ν _ h
  · replace h := oF hc1 h
    cases h
    exact z_vret dX4_learn_11 rfl
theorem ct_Rw_learn {g : GG} {d : Nat} {x1 : Int32} {ν : Nm} {r : Nm} (hd0 : 204 ≤ d)  (h : Rw_learn x1 ν = some r) : Ct g d mX4_learn [.ref 276, .int x1] (zem ν) (none, zem r) := y_entry in_X4_learn (Nat.le_of_ble_eq_true rfl) rfl (t_Rw_learn hd0 x1 ν r h)
-- FuseMinutes$Rows.marked(II)Z
theorem dX4_marked_0 : decode cX4_marked 0 = .ok (.aload_n 0, 1) := by decide +kernel
theorem dX4_marked_1 : decode cX4_marked 1 = .ok (.getfield 9, 3) := by decide +kernel
theorem dX4_marked_4 : decode cX4_marked 4 = .ok (.iload_n 1, 1) := by decide +kernel
theorem dX4_marked_5 : decode cX4_marked 5 = .ok (.sipush 241, 3) := by decide +kernel
theorem dX4_marked_8 : decode cX4_marked 8 = .ok (.imul, 1) := by decide +kernel
theorem dX4_marked_9 : decode cX4_marked 9 = .ok (.iload_n 2, 1) := by decide +kernel
theorem dX4_marked_10 : decode cX4_marked 10 = .ok (.bipush 64, 2) := by decide +kernel
theorem dX4_marked_12 : decode cX4_marked 12 = .ok (.idiv, 1) := by decide +kernel
theorem dX4_marked_13 : decode cX4_marked 13 = .ok (.iadd, 1) := by decide +kernel
theorem dX4_marked_14 : decode cX4_marked 14 = .ok (.laload, 1) := by decide +kernel
theorem dX4_marked_15 : decode cX4_marked 15 = .ok (.iload_n 2, 1) := by decide +kernel
theorem dX4_marked_16 : decode cX4_marked 16 = .ok (.bipush 64, 2) := by decide +kernel
theorem dX4_marked_18 : decode cX4_marked 18 = .ok (.irem, 1) := by decide +kernel
theorem dX4_marked_19 : decode cX4_marked 19 = .ok (.lshr, 1) := by decide +kernel
theorem dX4_marked_20 : decode cX4_marked 20 = .ok (.lconst 1, 1) := by decide +kernel
theorem dX4_marked_21 : decode cX4_marked 21 = .ok (.land, 1) := by decide +kernel
theorem dX4_marked_22 : decode cX4_marked 22 = .ok (.lconst 0, 1) := by decide +kernel
theorem dX4_marked_23 : decode cX4_marked 23 = .ok (.lcmp, 1) := by decide +kernel
theorem dX4_marked_24 : decode cX4_marked 24 = .ok (.ifCond .eq 7, 3) := by decide +kernel
theorem dX4_marked_27 : decode cX4_marked 27 = .ok (.iconst 1, 1) := by decide +kernel
theorem dX4_marked_28 : decode cX4_marked 28 = .ok (.goto 4, 3) := by decide +kernel
theorem dX4_marked_31 : decode cX4_marked 31 = .ok (.iconst 0, 1) := by decide +kernel
theorem dX4_marked_32 : decode cX4_marked 32 = .ok (.ireturn, 1) := by decide +kernel
def Rw_marked (ν : Nm) (x1 : Int32) (x2 : Int32) : Option Bool :=
  if inb ((x1 * (241 : Int32)) + (x2 / (64 : Int32))) 3856 then
  (if (lg_cmp (((gl ν 277 ((x1 * (241 : Int32)) + (x2 / (64 : Int32))).toNatClampNeg) >>> ((x2 - x2 / (64 : Int32) * (64 : Int32)).toInt64 &&& 63)) &&& (1 : Int64)) (0 : Int64)) = 0 then
    some false
  else
    some true)
  else none
set_option maxRecDepth 100000 in
set_option maxHeartbeats 4000000 in
theorem t_Rw_marked {g : GG} {d : Nat} {ν : Nm} (hd0 : 1 ≤ d) : ∀ (x1 : Int32) (x2 : Int32) (r : Bool), Rw_marked ν x1 x2 = some r → Z g d (0, 0) mX4_marked 333 0 0 0 [(0, .ref 276), (1, .int x1), (2, .int x2)] [] (zem ν) (zF g (some (.int (b2i r)), zem ν)) := by
  intro x1 x2 r h
  unfold Rw_marked at h
  refine z_aload_n dX4_marked_0 0 rfl ?_
  refine y_getR (M := mX4_marked) (r := 277) dX4_marked_1 zk_276 flRX4_9 fr_3_3.1 (fr_3_3.2 _) ?_
  refine z_iload_n dX4_marked_4 1 rfl ?_
  refine z_sipush (M := mX4_marked) (v := 241) dX4_marked_5 rfl ?_
  refine z_imul dX4_marked_8 ?_
  refine z_iload_n dX4_marked_9 2 rfl ?_
  refine z_bipush (M := mX4_marked) (v := 64) dX4_marked_10 rfl ?_
  refine z_idiv dX4_marked_12 (by decide) ?_
  refine z_iadd dX4_marked_13 ?_
  obtain ⟨hi1, h⟩ := oif h
  refine y_lald (M := mX4_marked) (jj := ((x1 * (241 : Int32)) + (x2 / (64 : Int32))).toNatClampNeg) dX4_marked_14 zk_277 hi1 rfl ?_
  refine z_iload_n dX4_marked_15 2 rfl ?_
  refine z_bipush (M := mX4_marked) (v := 64) dX4_marked_16 rfl ?_
  refine z_irem dX4_marked_18 (by decide) ?_
  refine z_lshr dX4_marked_19 ?_
  refine z_lconst (M := mX4_marked) (v := 1) dX4_marked_20 rfl ?_
  refine z_land dX4_marked_21 ?_
  refine z_lconst (M := mX4_marked) (v := 0) dX4_marked_22 rfl ?_
  refine z_lcmp dX4_marked_23 ?_
  refine z_if_eq 31 dX4_marked_24 rfl (fun hc2 => ?_) (fun hc2 => ?_)
  · replace h := oT hc2 h
    refine z_iconst (M := mX4_marked) (v := 0) dX4_marked_31 rfl ?_
    cases h
    exact z_zret dX4_marked_32 rfl rfl
  · replace h := oF hc2 h
    refine z_iconst (M := mX4_marked) (v := 1) dX4_marked_27 rfl ?_
    refine z_goto 32 dX4_marked_28 rfl ?_
    cases h
    exact z_zret dX4_marked_32 rfl rfl
theorem ct_Rw_marked {g : GG} {d : Nat} {x1 : Int32} {x2 : Int32} {ν : Nm} {r : Bool} (hd0 : 1 ≤ d)  (h : Rw_marked ν x1 x2 = some r) : Ct g d mX4_marked [.ref 276, .int x1, .int x2] (zem ν) (some (.int (b2i r)), zem ν) := y_entry in_X4_marked (Nat.le_of_ble_eq_true rfl) rfl (t_Rw_marked hd0 x1 x2 r h)
-- FuseMinutes$Rows.gives(II)Z
theorem dX4_gives_0 : decode cX4_gives 0 = .ok (.iload_n 2, 1) := by decide +kernel
theorem dX4_gives_1 : decode cX4_gives 1 = .ok (.invokestatic 38, 3) := by decide +kernel
theorem dX4_gives_4 : decode cX4_gives 4 = .ok (.ifCond .ne 5, 3) := by decide +kernel
theorem dX4_gives_7 : decode cX4_gives 7 = .ok (.iconst 0, 1) := by decide +kernel
theorem dX4_gives_8 : decode cX4_gives 8 = .ok (.ireturn, 1) := by decide +kernel
theorem dX4_gives_9 : decode cX4_gives 9 = .ok (.aload_n 0, 1) := by decide +kernel
theorem dX4_gives_10 : decode cX4_gives 10 = .ok (.iload_n 1, 1) := by decide +kernel
theorem dX4_gives_11 : decode cX4_gives 11 = .ok (.invokevirtual 42, 3) := by decide +kernel
theorem dX4_gives_14 : decode cX4_gives 14 = .ok (.aload_n 0, 1) := by decide +kernel
theorem dX4_gives_15 : decode cX4_gives 15 = .ok (.iload_n 1, 1) := by decide +kernel
theorem dX4_gives_16 : decode cX4_gives 16 = .ok (.iload_n 2, 1) := by decide +kernel
theorem dX4_gives_17 : decode cX4_gives 17 = .ok (.invokevirtual 46, 3) := by decide +kernel
theorem dX4_gives_20 : decode cX4_gives 20 = .ok (.ireturn, 1) := by decide +kernel
def Rw_gives (x1 : Int32) (x2 : Int32) (ν : Nm) : Option (Bool × Nm) :=
  (Fm_isSpan x2).bind fun v1 =>
  (if ¬ (b2i v1) = 0 then
    (Rw_learn x1 ν).bind fun v3 =>
    (Rw_marked v3 x1 x2).bind fun v4 =>
    some (v4, v3)
  else
    some (false, ν))
set_option maxRecDepth 100000 in
set_option maxHeartbeats 4000000 in
theorem t_Rw_gives {g : GG} {d : Nat} (hd0 : 205 ≤ d) : ∀ (x1 : Int32) (x2 : Int32) (ν : Nm) (r : (Bool × Nm)), Rw_gives x1 x2 ν = some r → Z g d (0, 0) mX4_gives 333 0 0 0 [(0, .ref 276), (1, .int x1), (2, .int x2)] [] (zem ν) (zF g (some (.int (b2i r.1)), zem r.2)) := by
  intro x1 x2 ν r h
  unfold Rw_gives at h
  refine z_iload_n dX4_gives_0 2 rfl ?_
  obtain ⟨v1, he1, h⟩ := obind h
  refine y_Ni (M := mX4_gives) (Y := mX11_isSpan) (d2 := d - 1) (As := [.int x2]) (st := []) dX4_gives_1 nlRX4_38 cv_X11_isSpan (ct_Fm_isSpan (dle (Nat.le_of_ble_eq_true rfl) hd0) he1) (dps (Nat.le_of_ble_eq_true rfl) hd0) rfl rfl (Nat.le_of_ble_eq_true rfl) ?_
  refine z_if_ne 9 dX4_gives_4 rfl (fun hc2 => ?_) (fun hc2 => ?_)
  · replace h := oT hc2 h
    refine z_aload_n dX4_gives_9 0 rfl ?_
    refine z_iload_n dX4_gives_10 1 rfl ?_
    obtain ⟨v3, he3, h⟩ := obind h
    refine y_Vv (M := mX4_gives) (Y := mX4_learn) (d2 := d - 1) (As := [.int x1]) (st := []) dX4_gives_11 mlRX4_42 cv_X4_learn zk_276 (ct_Rw_learn (dle (Nat.le_of_ble_eq_true rfl) hd0) he3) (dps (Nat.le_of_ble_eq_true rfl) hd0) rfl rfl (Nat.le_of_ble_eq_true rfl) ?_
    refine z_aload_n dX4_gives_14 0 rfl ?_
    refine z_iload_n dX4_gives_15 1 rfl ?_
    refine z_iload_n dX4_gives_16 2 rfl ?_
    obtain ⟨v4, he4, h⟩ := obind h
    refine y_Vi (M := mX4_gives) (Y := mX4_marked) (d2 := d - 1) (As := [.int x1, .int x2]) (st := []) dX4_gives_17 mlRX4_46 cv_X4_marked zk_276 (ct_Rw_marked (dle (Nat.le_of_ble_eq_true rfl) hd0) he4) (dps (Nat.le_of_ble_eq_true rfl) hd0) rfl rfl (Nat.le_of_ble_eq_true rfl) ?_
    cases h
    exact z_zret dX4_gives_20 rfl (nar_b2i _)
  · replace h := oFn hc2 h
    refine z_iconst (M := mX4_gives) (v := 0) dX4_gives_7 rfl ?_
    cases h
    exact z_zret dX4_gives_8 rfl rfl
theorem ct_Rw_gives {g : GG} {d : Nat} {x1 : Int32} {x2 : Int32} {ν : Nm} {r : (Bool × Nm)} (hd0 : 205 ≤ d)  (h : Rw_gives x1 x2 ν = some r) : Ct g d mX4_gives [.ref 276, .int x1, .int x2] (zem ν) (some (.int (b2i r.1)), zem r.2) := y_entry in_X4_gives (Nat.le_of_ble_eq_true rfl) rfl (t_Rw_gives hd0 x1 x2 ν r h)
-- FuseMinutes$Rows.countSpans(I)I
theorem dX4_countSpans_0 : decode cX4_countSpans 0 = .ok (.aload_n 0, 1) := by decide +kernel
theorem dX4_countSpans_1 : decode cX4_countSpans 1 = .ok (.iload_n 1, 1) := by decide +kernel
theorem dX4_countSpans_2 : decode cX4_countSpans 2 = .ok (.invokevirtual 42, 3) := by decide +kernel
theorem dX4_countSpans_5 : decode cX4_countSpans 5 = .ok (.iconst 0, 1) := by decide +kernel
theorem dX4_countSpans_6 : decode cX4_countSpans 6 = .ok (.istore_n 2, 1) := by decide +kernel
theorem dX4_countSpans_7 : decode cX4_countSpans 7 = .ok (.iconst 0, 1) := by decide +kernel
theorem dX4_countSpans_8 : decode cX4_countSpans 8 = .ok (.istore_n 3, 1) := by decide +kernel
theorem dX4_countSpans_9 : decode cX4_countSpans 9 = .ok (.iload_n 3, 1) := by decide +kernel
theorem dX4_countSpans_10 : decode cX4_countSpans 10 = .ok (.sipush 241, 3) := by decide +kernel
theorem dX4_countSpans_13 : decode cX4_countSpans 13 = .ok (.if_icmp .ge 27, 3) := by decide +kernel
theorem dX4_countSpans_16 : decode cX4_countSpans 16 = .ok (.iload_n 2, 1) := by decide +kernel
theorem dX4_countSpans_17 : decode cX4_countSpans 17 = .ok (.aload_n 0, 1) := by decide +kernel
theorem dX4_countSpans_18 : decode cX4_countSpans 18 = .ok (.getfield 9, 3) := by decide +kernel
theorem dX4_countSpans_21 : decode cX4_countSpans 21 = .ok (.iload_n 1, 1) := by decide +kernel
theorem dX4_countSpans_22 : decode cX4_countSpans 22 = .ok (.sipush 241, 3) := by decide +kernel
theorem dX4_countSpans_25 : decode cX4_countSpans 25 = .ok (.imul, 1) := by decide +kernel
theorem dX4_countSpans_26 : decode cX4_countSpans 26 = .ok (.iload_n 3, 1) := by decide +kernel
theorem dX4_countSpans_27 : decode cX4_countSpans 27 = .ok (.iadd, 1) := by decide +kernel
theorem dX4_countSpans_28 : decode cX4_countSpans 28 = .ok (.laload, 1) := by decide +kernel
theorem dX4_countSpans_29 : decode cX4_countSpans 29 = .ok (.invokestatic 50, 3) := by decide +kernel
theorem dX4_countSpans_32 : decode cX4_countSpans 32 = .ok (.iadd, 1) := by decide +kernel
theorem dX4_countSpans_33 : decode cX4_countSpans 33 = .ok (.istore_n 2, 1) := by decide +kernel
theorem dX4_countSpans_34 : decode cX4_countSpans 34 = .ok (.iinc 3 1, 3) := by decide +kernel
theorem dX4_countSpans_37 : decode cX4_countSpans 37 = .ok (.goto (-28), 3) := by decide +kernel
theorem dX4_countSpans_40 : decode cX4_countSpans 40 = .ok (.iload_n 2, 1) := by decide +kernel
theorem dX4_countSpans_41 : decode cX4_countSpans 41 = .ok (.ireturn, 1) := by decide +kernel
def Rw_countSpans_9 : Nat → Int32 → Int32 → Int32 → Nm → Option (Int32 × Nm)
  | 0, _, _, _, _ => none
  | f + 1, x1, x2, x3, ν =>
    (if (241 : Int32) ≤ x3 then
      some (x2, ν)
    else
      if inb ((x1 * (241 : Int32)) + x3) 3856 then
      (Lo_bitCountJ (gl ν 277 ((x1 * (241 : Int32)) + x3).toNatClampNeg)).bind fun v3 =>
      (Rw_countSpans_9 f) x1 (x2 + v3) (x3 + (1 : Int32)) ν
      else none)
set_option maxRecDepth 100000 in
set_option maxHeartbeats 4000000 in
theorem t_Rw_countSpans_9 {g : GG} {d : Nat} (hd0 : 205 ≤ d) : ∀ (f : Nat), ∀ (x1 : Int32) (x2 : Int32) (x3 : Int32) (ν : Nm) (r : (Int32 × Nm)), Rw_countSpans_9 f x1 x2 x3 ν = some r → Z g d (0, 0) mX4_countSpans 333 0 0 9 [(0, .ref 276), (1, .int x1), (2, .int x2), (3, .int x3)] [] (zem ν) (zF g (some (.int r.1), zem r.2)) := by
  intro f
  induction f with
  | zero =>
    intro x1 x2 x3 ν r h
    cases h
  | succ f ih =>
    intro x1 x2 x3 ν r h
    rw [Rw_countSpans_9] at h
    refine z_iload_n dX4_countSpans_9 3 rfl ?_
    refine z_sipush (M := mX4_countSpans) (v := 241) dX4_countSpans_10 rfl ?_
    refine z_icmp_ge 40 dX4_countSpans_13 rfl (fun hc1 => ?_) (fun hc1 => ?_)
    · replace h := oT hc1 h
      refine z_iload_n dX4_countSpans_40 2 rfl ?_
      cases h
      exact z_iret dX4_countSpans_41 rfl
    · replace h := oF hc1 h
      refine z_iload_n dX4_countSpans_16 2 rfl ?_
      refine z_aload_n dX4_countSpans_17 0 rfl ?_
      refine y_getR (M := mX4_countSpans) (r := 277) dX4_countSpans_18 zk_276 flRX4_9 fr_3_3.1 (fr_3_3.2 _) ?_
      refine z_iload_n dX4_countSpans_21 1 rfl ?_
      refine z_sipush (M := mX4_countSpans) (v := 241) dX4_countSpans_22 rfl ?_
      refine z_imul dX4_countSpans_25 ?_
      refine z_iload_n dX4_countSpans_26 3 rfl ?_
      refine z_iadd dX4_countSpans_27 ?_
      obtain ⟨hi2, h⟩ := oif h
      refine y_lald (M := mX4_countSpans) (jj := ((x1 * (241 : Int32)) + x3).toNatClampNeg) dX4_countSpans_28 zk_277 hi2 rfl ?_
      obtain ⟨v3, he3, h⟩ := obind h
      refine y_Si (M := mX4_countSpans) (Y := mJ13_bitCount_95d88) (d2 := d - 1) (As := [.long (gl ν 277 ((x1 * (241 : Int32)) + x3).toNatClampNeg)]) (st := [.int x2]) dX4_countSpans_29 mlRX4_50 cv_J13_bitCount_95d88 (ct_Lo_bitCountJ (dle (Nat.le_of_ble_eq_true rfl) hd0) he3) (dps (Nat.le_of_ble_eq_true rfl) hd0) rfl rfl (Nat.le_of_ble_eq_true rfl) ?_
      refine z_iadd dX4_countSpans_32 ?_
      refine z_istore_n (M := mX4_countSpans) (lv2 := [(2, .int (x2 + v3)), (0, .ref 276), (1, .int x1), (3, .int x3)]) dX4_countSpans_33 (Nat.le_of_ble_eq_true rfl) rfl ?_
      refine z_iinc (M := mX4_countSpans) (v := (x3 + (1 : Int32))) (lv2 := [(3, .int (x3 + (1 : Int32))), (2, .int (x2 + v3)), (0, .ref 276), (1, .int x1)]) dX4_countSpans_34 3 rfl rfl (Nat.le_of_ble_eq_true rfl) rfl ?_
      refine z_goto 9 dX4_countSpans_37 rfl ?_
      refine z_lv (lv2 := [(0, .ref 276), (1, .int x1), (2, .int (x2 + v3)), (3, .int (x3 + (1 : Int32)))]) [2, 3, 1, 0] rfl ?_
      exact ih x1 (x2 + v3) (x3 + (1 : Int32)) ν _ h
def Rw_countSpans (x1 : Int32) (ν : Nm) : Option (Int32 × Nm) :=
  (Rw_learn x1 ν).bind fun v1 =>
  Rw_countSpans_9 FU x1 (0 : Int32) (0 : Int32) v1
set_option maxRecDepth 100000 in
set_option maxHeartbeats 4000000 in
theorem t_Rw_countSpans {g : GG} {d : Nat} (hd0 : 205 ≤ d) : ∀ (x1 : Int32) (ν : Nm) (r : (Int32 × Nm)), Rw_countSpans x1 ν = some r → Z g d (0, 0) mX4_countSpans 333 0 0 0 [(0, .ref 276), (1, .int x1)] [] (zem ν) (zF g (some (.int r.1), zem r.2)) := by
  intro x1 ν r h
  unfold Rw_countSpans at h
  refine z_aload_n dX4_countSpans_0 0 rfl ?_
  refine z_iload_n dX4_countSpans_1 1 rfl ?_
  obtain ⟨v1, he1, h⟩ := obind h
  refine y_Vv (M := mX4_countSpans) (Y := mX4_learn) (d2 := d - 1) (As := [.int x1]) (st := []) dX4_countSpans_2 mlRX4_42 cv_X4_learn zk_276 (ct_Rw_learn (dle (Nat.le_of_ble_eq_true rfl) hd0) he1) (dps (Nat.le_of_ble_eq_true rfl) hd0) rfl rfl (Nat.le_of_ble_eq_true rfl) ?_
  refine z_iconst (M := mX4_countSpans) (v := 0) dX4_countSpans_5 rfl ?_
  refine z_istore_n (M := mX4_countSpans) (lv2 := [(2, .int (0 : Int32)), (0, .ref 276), (1, .int x1)]) dX4_countSpans_6 (Nat.le_of_ble_eq_true rfl) rfl ?_
  refine z_iconst (M := mX4_countSpans) (v := 0) dX4_countSpans_7 rfl ?_
  refine z_istore_n (M := mX4_countSpans) (lv2 := [(3, .int (0 : Int32)), (2, .int (0 : Int32)), (0, .ref 276), (1, .int x1)]) dX4_countSpans_8 (Nat.le_of_ble_eq_true rfl) rfl ?_
  refine z_lv (lv2 := [(0, .ref 276), (1, .int x1), (2, .int (0 : Int32)), (3, .int (0 : Int32))]) [2, 3, 1, 0] rfl ?_
  exact t_Rw_countSpans_9 hd0 FU x1 (0 : Int32) (0 : Int32) v1 _ h
theorem ct_Rw_countSpans {g : GG} {d : Nat} {x1 : Int32} {ν : Nm} {r : (Int32 × Nm)} (hd0 : 205 ≤ d)  (h : Rw_countSpans x1 ν = some r) : Ct g d mX4_countSpans [.ref 276, .int x1] (zem ν) (some (.int r.1), zem r.2) := y_entry in_X4_countSpans (Nat.le_of_ble_eq_true rfl) rfl (t_Rw_countSpans hd0 x1 ν r h)
-- FuseMinutes$Rows.spanInWord(III)I
theorem dX4_spanInWord_0 : decode cX4_spanInWord 0 = .ok (.iload_n 3, 1) := by decide +kernel
theorem dX4_spanInWord_1 : decode cX4_spanInWord 1 = .ok (.istore 4, 2) := by decide +kernel
theorem dX4_spanInWord_3 : decode cX4_spanInWord 3 = .ok (.iload_n 2, 1) := by decide +kernel
theorem dX4_spanInWord_4 : decode cX4_spanInWord 4 = .ok (.bipush 64, 2) := by decide +kernel
theorem dX4_spanInWord_6 : decode cX4_spanInWord 6 = .ok (.imul, 1) := by decide +kernel
theorem dX4_spanInWord_7 : decode cX4_spanInWord 7 = .ok (.istore 5, 2) := by decide +kernel
theorem dX4_spanInWord_9 : decode cX4_spanInWord 9 = .ok (.iload 5, 2) := by decide +kernel
theorem dX4_spanInWord_11 : decode cX4_spanInWord 11 = .ok (.iload_n 2, 1) := by decide +kernel
theorem dX4_spanInWord_12 : decode cX4_spanInWord 12 = .ok (.bipush 64, 2) := by decide +kernel
theorem dX4_spanInWord_14 : decode cX4_spanInWord 14 = .ok (.imul, 1) := by decide +kernel
theorem dX4_spanInWord_15 : decode cX4_spanInWord 15 = .ok (.bipush 64, 2) := by decide +kernel
theorem dX4_spanInWord_17 : decode cX4_spanInWord 17 = .ok (.iadd, 1) := by decide +kernel
theorem dX4_spanInWord_18 : decode cX4_spanInWord 18 = .ok (.if_icmp .ge 30, 3) := by decide +kernel
theorem dX4_spanInWord_21 : decode cX4_spanInWord 21 = .ok (.aload_n 0, 1) := by decide +kernel
theorem dX4_spanInWord_22 : decode cX4_spanInWord 22 = .ok (.iload_n 1, 1) := by decide +kernel
theorem dX4_spanInWord_23 : decode cX4_spanInWord 23 = .ok (.iload 5, 2) := by decide +kernel
theorem dX4_spanInWord_25 : decode cX4_spanInWord 25 = .ok (.invokevirtual 46, 3) := by decide +kernel
theorem dX4_spanInWord_28 : decode cX4_spanInWord 28 = .ok (.ifCond .eq 14, 3) := by decide +kernel
theorem dX4_spanInWord_31 : decode cX4_spanInWord 31 = .ok (.iload 4, 2) := by decide +kernel
theorem dX4_spanInWord_33 : decode cX4_spanInWord 33 = .ok (.ifCond .ne 6, 3) := by decide +kernel
theorem dX4_spanInWord_36 : decode cX4_spanInWord 36 = .ok (.iload 5, 2) := by decide +kernel
theorem dX4_spanInWord_38 : decode cX4_spanInWord 38 = .ok (.ireturn, 1) := by decide +kernel
theorem dX4_spanInWord_39 : decode cX4_spanInWord 39 = .ok (.iinc 4 (-1), 3) := by decide +kernel
theorem dX4_spanInWord_42 : decode cX4_spanInWord 42 = .ok (.iinc 5 1, 3) := by decide +kernel
theorem dX4_spanInWord_45 : decode cX4_spanInWord 45 = .ok (.goto (-36), 3) := by decide +kernel
theorem dX4_spanInWord_48 : decode cX4_spanInWord 48 = .ok (.bipush (-2), 2) := by decide +kernel
theorem dX4_spanInWord_50 : decode cX4_spanInWord 50 = .ok (.ireturn, 1) := by decide +kernel
def Rw_spanInWord_42 (ν : Nm) (k9 : Int32 → Int32 → Int32 → Int32 → Option Int32) (x1 : Int32) (x2 : Int32) (x4 : Int32) (x5 : Int32) : Option Int32 :=
  k9 x1 x2 x4 (x5 + (1 : Int32))
set_option maxRecDepth 100000 in
set_option maxHeartbeats 4000000 in
theorem t_Rw_spanInWord_42 {g : GG} {d : Nat} {ν : Nm} (hd0 : 2 ≤ d) {k9 : Int32 → Int32 → Int32 → Int32 → Option Int32} (hk9 : ∀ (x1 : Int32) (x2 : Int32) (x4 : Int32) (x5 : Int32) (r : Int32), k9 x1 x2 x4 x5 = some r → Z g d (0, 0) mX4_spanInWord 333 0 0 9 [(0, .ref 276), (1, .int x1), (2, .int x2), (4, .int x4), (5, .int x5)] [] (zem ν) (zF g (some (.int r), zem ν))) : ∀ (x1 : Int32) (x2 : Int32) (x4 : Int32) (x5 : Int32) (r : Int32), Rw_spanInWord_42 ν k9 x1 x2 x4 x5 = some r → Z g d (0, 0) mX4_spanInWord 333 0 0 42 [(0, .ref 276), (1, .int x1), (2, .int x2), (4, .int x4), (5, .int x5)] [] (zem ν) (zF g (some (.int r), zem ν)) := by
  intro x1 x2 x4 x5 r h
  unfold Rw_spanInWord_42 at h
  refine z_iinc (M := mX4_spanInWord) (v := (x5 + (1 : Int32))) (lv2 := [(5, .int (x5 + (1 : Int32))), (0, .ref 276), (1, .int x1), (2, .int x2), (4, .int x4)]) dX4_spanInWord_42 4 rfl rfl (Nat.le_of_ble_eq_true rfl) rfl ?_
  refine z_goto 9 dX4_spanInWord_45 rfl ?_
  refine z_lv (lv2 := [(0, .ref 276), (1, .int x1), (2, .int x2), (4, .int x4), (5, .int (x5 + (1 : Int32)))]) [1, 2, 3, 4, 0] rfl ?_
  exact hk9 x1 x2 x4 (x5 + (1 : Int32)) _ h
def Rw_spanInWord_9 (ν : Nm) : Nat → Int32 → Int32 → Int32 → Int32 → Option Int32
  | 0, _, _, _, _ => none
  | f + 1, x1, x2, x4, x5 =>
    (if ((x2 * (64 : Int32)) + (64 : Int32)) ≤ x5 then
      some (-2 : Int32)
    else
      (Rw_marked ν x1 x5).bind fun v2 =>
      (if (b2i v2) = 0 then
        Rw_spanInWord_42 ν (Rw_spanInWord_9 ν f) x1 x2 x4 x5
      else
        (if ¬ x4 = 0 then
          Rw_spanInWord_42 ν (Rw_spanInWord_9 ν f) x1 x2 (x4 + (-1 : Int32)) x5
        else
          some x5)))
set_option maxRecDepth 100000 in
set_option maxHeartbeats 4000000 in
theorem t_Rw_spanInWord_9 {g : GG} {d : Nat} {ν : Nm} (hd0 : 2 ≤ d) : ∀ (f : Nat), ∀ (x1 : Int32) (x2 : Int32) (x4 : Int32) (x5 : Int32) (r : Int32), Rw_spanInWord_9 ν f x1 x2 x4 x5 = some r → Z g d (0, 0) mX4_spanInWord 333 0 0 9 [(0, .ref 276), (1, .int x1), (2, .int x2), (4, .int x4), (5, .int x5)] [] (zem ν) (zF g (some (.int r), zem ν)) := by
  intro f
  induction f with
  | zero =>
    intro x1 x2 x4 x5 r h
    cases h
  | succ f ih =>
    intro x1 x2 x4 x5 r h
    rw [Rw_spanInWord_9] at h
    refine z_iload dX4_spanInWord_9 4 rfl ?_
    refine z_iload_n dX4_spanInWord_11 2 rfl ?_
    refine z_bipush (M := mX4_spanInWord) (v := 64) dX4_spanInWord_12 rfl ?_
    refine z_imul dX4_spanInWord_14 ?_
    refine z_bipush (M := mX4_spanInWord) (v := 64) dX4_spanInWord_15 rfl ?_
    refine z_iadd dX4_spanInWord_17 ?_
    refine z_icmp_ge 48 dX4_spanInWord_18 rfl (fun hc1 => ?_) (fun hc1 => ?_)
    · replace h := oT hc1 h
      refine z_bipush (M := mX4_spanInWord) (v := -2) dX4_spanInWord_48 rfl ?_
      cases h
      exact z_iret dX4_spanInWord_50 rfl
    · replace h := oF hc1 h
      refine z_aload_n dX4_spanInWord_21 0 rfl ?_
      refine z_iload_n dX4_spanInWord_22 1 rfl ?_
      refine z_iload dX4_spanInWord_23 4 rfl ?_
      obtain ⟨v2, he2, h⟩ := obind h
      refine y_Vi (M := mX4_spanInWord) (Y := mX4_marked) (d2 := d - 1) (As := [.int x1, .int x5]) (st := []) dX4_spanInWord_25 mlRX4_46 cv_X4_marked zk_276 (ct_Rw_marked (dle (Nat.le_of_ble_eq_true rfl) hd0) he2) (dps (Nat.le_of_ble_eq_true rfl) hd0) rfl rfl (Nat.le_of_ble_eq_true rfl) ?_
      refine z_if_eq 42 dX4_spanInWord_28 rfl (fun hc3 => ?_) (fun hc3 => ?_)
      · replace h := oT hc3 h
        exact t_Rw_spanInWord_42 hd0 ih x1 x2 x4 x5 _ h
      · replace h := oF hc3 h
        refine z_iload dX4_spanInWord_31 3 rfl ?_
        refine z_if_ne 39 dX4_spanInWord_33 rfl (fun hc4 => ?_) (fun hc4 => ?_)
        · replace h := oT hc4 h
          refine z_iinc (M := mX4_spanInWord) (v := (x4 + (-1 : Int32))) (lv2 := [(4, .int (x4 + (-1 : Int32))), (0, .ref 276), (1, .int x1), (2, .int x2), (5, .int x5)]) dX4_spanInWord_39 3 rfl rfl (Nat.le_of_ble_eq_true rfl) rfl ?_
          refine z_lv (lv2 := [(0, .ref 276), (1, .int x1), (2, .int x2), (4, .int (x4 + (-1 : Int32))), (5, .int x5)]) [1, 2, 3, 0, 4] rfl ?_
          exact t_Rw_spanInWord_42 hd0 ih x1 x2 (x4 + (-1 : Int32)) x5 _ h
        · replace h := oFn hc4 h
          refine z_iload dX4_spanInWord_36 4 rfl ?_
          cases h
          exact z_iret dX4_spanInWord_38 rfl
def Rw_spanInWord (ν : Nm) (x1 : Int32) (x2 : Int32) (x3 : Int32) : Option Int32 :=
  Rw_spanInWord_9 ν FU x1 x2 x3 (x2 * (64 : Int32))
set_option maxRecDepth 100000 in
set_option maxHeartbeats 4000000 in
theorem t_Rw_spanInWord {g : GG} {d : Nat} {ν : Nm} (hd0 : 2 ≤ d) : ∀ (x1 : Int32) (x2 : Int32) (x3 : Int32) (r : Int32), Rw_spanInWord ν x1 x2 x3 = some r → Z g d (0, 0) mX4_spanInWord 333 0 0 0 [(0, .ref 276), (1, .int x1), (2, .int x2), (3, .int x3)] [] (zem ν) (zF g (some (.int r), zem ν)) := by
  intro x1 x2 x3 r h
  unfold Rw_spanInWord at h
  refine z_iload_n dX4_spanInWord_0 3 rfl ?_
  refine z_istore (M := mX4_spanInWord) (lv2 := [(4, .int x3), (0, .ref 276), (1, .int x1), (2, .int x2), (3, .int x3)]) dX4_spanInWord_1 (Nat.le_of_ble_eq_true rfl) rfl ?_
  refine z_iload_n dX4_spanInWord_3 3 rfl ?_
  refine z_bipush (M := mX4_spanInWord) (v := 64) dX4_spanInWord_4 rfl ?_
  refine z_imul dX4_spanInWord_6 ?_
  refine z_istore (M := mX4_spanInWord) (lv2 := [(5, .int (x2 * (64 : Int32))), (4, .int x3), (0, .ref 276), (1, .int x1), (2, .int x2), (3, .int x3)]) dX4_spanInWord_7 (Nat.le_of_ble_eq_true rfl) rfl ?_
  refine z_lv (lv2 := [(0, .ref 276), (1, .int x1), (2, .int x2), (4, .int x3), (5, .int (x2 * (64 : Int32)))]) [2, 3, 4, 1, 0] rfl ?_
  exact t_Rw_spanInWord_9 hd0 FU x1 x2 x3 (x2 * (64 : Int32)) _ h
theorem ct_Rw_spanInWord {g : GG} {d : Nat} {x1 : Int32} {x2 : Int32} {x3 : Int32} {ν : Nm} {r : Int32} (hd0 : 2 ≤ d)  (h : Rw_spanInWord ν x1 x2 x3 = some r) : Ct g d mX4_spanInWord [.ref 276, .int x1, .int x2, .int x3] (zem ν) (some (.int r), zem ν) := y_entry in_X4_spanInWord (Nat.le_of_ble_eq_true rfl) rfl (t_Rw_spanInWord hd0 x1 x2 x3 r h)
-- FuseMinutes$Rows.spanNumber(II)I
theorem dX4_spanNumber_0 : decode cX4_spanNumber 0 = .ok (.iload_n 2, 1) := by decide +kernel
theorem dX4_spanNumber_1 : decode cX4_spanNumber 1 = .ok (.ifCond .ge 6, 3) := by decide +kernel
theorem dX4_spanNumber_4 : decode cX4_spanNumber 4 = .ok (.bipush (-2), 2) := by decide +kernel
theorem dX4_spanNumber_6 : decode cX4_spanNumber 6 = .ok (.ireturn, 1) := by decide +kernel
theorem dX4_spanNumber_7 : decode cX4_spanNumber 7 = .ok (.aload_n 0, 1) := by decide +kernel
theorem dX4_spanNumber_8 : decode cX4_spanNumber 8 = .ok (.iload_n 1, 1) := by decide +kernel
theorem dX4_spanNumber_9 : decode cX4_spanNumber 9 = .ok (.invokevirtual 42, 3) := by decide +kernel
theorem dX4_spanNumber_12 : decode cX4_spanNumber 12 = .ok (.iload_n 2, 1) := by decide +kernel
theorem dX4_spanNumber_13 : decode cX4_spanNumber 13 = .ok (.istore_n 3, 1) := by decide +kernel
theorem dX4_spanNumber_14 : decode cX4_spanNumber 14 = .ok (.iconst 0, 1) := by decide +kernel
theorem dX4_spanNumber_15 : decode cX4_spanNumber 15 = .ok (.istore 4, 2) := by decide +kernel
theorem dX4_spanNumber_17 : decode cX4_spanNumber 17 = .ok (.iload 4, 2) := by decide +kernel
theorem dX4_spanNumber_19 : decode cX4_spanNumber 19 = .ok (.sipush 241, 3) := by decide +kernel
theorem dX4_spanNumber_22 : decode cX4_spanNumber 22 = .ok (.if_icmp .ge 47, 3) := by decide +kernel
theorem dX4_spanNumber_25 : decode cX4_spanNumber 25 = .ok (.aload_n 0, 1) := by decide +kernel
theorem dX4_spanNumber_26 : decode cX4_spanNumber 26 = .ok (.getfield 9, 3) := by decide +kernel
theorem dX4_spanNumber_29 : decode cX4_spanNumber 29 = .ok (.iload_n 1, 1) := by decide +kernel
theorem dX4_spanNumber_30 : decode cX4_spanNumber 30 = .ok (.sipush 241, 3) := by decide +kernel
theorem dX4_spanNumber_33 : decode cX4_spanNumber 33 = .ok (.imul, 1) := by decide +kernel
theorem dX4_spanNumber_34 : decode cX4_spanNumber 34 = .ok (.iload 4, 2) := by decide +kernel
theorem dX4_spanNumber_36 : decode cX4_spanNumber 36 = .ok (.iadd, 1) := by decide +kernel
theorem dX4_spanNumber_37 : decode cX4_spanNumber 37 = .ok (.laload, 1) := by decide +kernel
theorem dX4_spanNumber_38 : decode cX4_spanNumber 38 = .ok (.invokestatic 50, 3) := by decide +kernel
theorem dX4_spanNumber_41 : decode cX4_spanNumber 41 = .ok (.istore 5, 2) := by decide +kernel
theorem dX4_spanNumber_43 : decode cX4_spanNumber 43 = .ok (.iload_n 3, 1) := by decide +kernel
theorem dX4_spanNumber_44 : decode cX4_spanNumber 44 = .ok (.iload 5, 2) := by decide +kernel
theorem dX4_spanNumber_46 : decode cX4_spanNumber 46 = .ok (.if_icmp .ge 12, 3) := by decide +kernel
theorem dX4_spanNumber_49 : decode cX4_spanNumber 49 = .ok (.aload_n 0, 1) := by decide +kernel
theorem dX4_spanNumber_50 : decode cX4_spanNumber 50 = .ok (.iload_n 1, 1) := by decide +kernel
theorem dX4_spanNumber_51 : decode cX4_spanNumber 51 = .ok (.iload 4, 2) := by decide +kernel
theorem dX4_spanNumber_53 : decode cX4_spanNumber 53 = .ok (.iload_n 3, 1) := by decide +kernel
theorem dX4_spanNumber_54 : decode cX4_spanNumber 54 = .ok (.invokevirtual 56, 3) := by decide +kernel
theorem dX4_spanNumber_57 : decode cX4_spanNumber 57 = .ok (.ireturn, 1) := by decide +kernel
theorem dX4_spanNumber_58 : decode cX4_spanNumber 58 = .ok (.iload_n 3, 1) := by decide +kernel
theorem dX4_spanNumber_59 : decode cX4_spanNumber 59 = .ok (.iload 5, 2) := by decide +kernel
theorem dX4_spanNumber_61 : decode cX4_spanNumber 61 = .ok (.isub, 1) := by decide +kernel
theorem dX4_spanNumber_62 : decode cX4_spanNumber 62 = .ok (.istore_n 3, 1) := by decide +kernel
theorem dX4_spanNumber_63 : decode cX4_spanNumber 63 = .ok (.iinc 4 1, 3) := by decide +kernel
theorem dX4_spanNumber_66 : decode cX4_spanNumber 66 = .ok (.goto (-49), 3) := by decide +kernel
theorem dX4_spanNumber_69 : decode cX4_spanNumber 69 = .ok (.bipush (-2), 2) := by decide +kernel
theorem dX4_spanNumber_71 : decode cX4_spanNumber 71 = .ok (.ireturn, 1) := by decide +kernel
def Rw_spanNumber_17 : Nat → Int32 → Int32 → Int32 → Nm → Option (Int32 × Nm)
  | 0, _, _, _, _ => none
  | f + 1, x1, x3, x4, ν =>
    (if (241 : Int32) ≤ x4 then
      some ((-2 : Int32), ν)
    else
      if inb ((x1 * (241 : Int32)) + x4) 3856 then
      (Lo_bitCountJ (gl ν 277 ((x1 * (241 : Int32)) + x4).toNatClampNeg)).bind fun v3 =>
      (if v3 ≤ x3 then
        (Rw_spanNumber_17 f) x1 (x3 - v3) (x4 + (1 : Int32)) ν
      else
        (Rw_spanInWord ν x1 x4 x3).bind fun v5 =>
        some (v5, ν))
      else none)
set_option maxRecDepth 100000 in
set_option maxHeartbeats 4000000 in
theorem t_Rw_spanNumber_17 {g : GG} {d : Nat} (hd0 : 205 ≤ d) : ∀ (f : Nat), ∀ (x1 : Int32) (x3 : Int32) (x4 : Int32) (ν : Nm) (r : (Int32 × Nm)), Rw_spanNumber_17 f x1 x3 x4 ν = some r → Z g d (0, 0) mX4_spanNumber 333 0 0 17 [(0, .ref 276), (1, .int x1), (3, .int x3), (4, .int x4)] [] (zem ν) (zF g (some (.int r.1), zem r.2)) := by
  intro f
  induction f with
  | zero =>
    intro x1 x3 x4 ν r h
    cases h
  | succ f ih =>
    intro x1 x3 x4 ν r h
    rw [Rw_spanNumber_17] at h
    refine z_iload dX4_spanNumber_17 3 rfl ?_
    refine z_sipush (M := mX4_spanNumber) (v := 241) dX4_spanNumber_19 rfl ?_
    refine z_icmp_ge 69 dX4_spanNumber_22 rfl (fun hc1 => ?_) (fun hc1 => ?_)
    · replace h := oT hc1 h
      refine z_bipush (M := mX4_spanNumber) (v := -2) dX4_spanNumber_69 rfl ?_
      cases h
      exact z_iret dX4_spanNumber_71 rfl
    · replace h := oF hc1 h
      refine z_aload_n dX4_spanNumber_25 0 rfl ?_
      refine y_getR (M := mX4_spanNumber) (r := 277) dX4_spanNumber_26 zk_276 flRX4_9 fr_3_3.1 (fr_3_3.2 _) ?_
      refine z_iload_n dX4_spanNumber_29 1 rfl ?_
      refine z_sipush (M := mX4_spanNumber) (v := 241) dX4_spanNumber_30 rfl ?_
      refine z_imul dX4_spanNumber_33 ?_
      refine z_iload dX4_spanNumber_34 3 rfl ?_
      refine z_iadd dX4_spanNumber_36 ?_
      obtain ⟨hi2, h⟩ := oif h
      refine y_lald (M := mX4_spanNumber) (jj := ((x1 * (241 : Int32)) + x4).toNatClampNeg) dX4_spanNumber_37 zk_277 hi2 rfl ?_
      obtain ⟨v3, he3, h⟩ := obind h
      refine y_Si (M := mX4_spanNumber) (Y := mJ13_bitCount_95d88) (d2 := d - 1) (As := [.long (gl ν 277 ((x1 * (241 : Int32)) + x4).toNatClampNeg)]) (st := []) dX4_spanNumber_38 mlRX4_50 cv_J13_bitCount_95d88 (ct_Lo_bitCountJ (dle (Nat.le_of_ble_eq_true rfl) hd0) he3) (dps (Nat.le_of_ble_eq_true rfl) hd0) rfl rfl (Nat.le_of_ble_eq_true rfl) ?_
      refine z_istore (M := mX4_spanNumber) (lv2 := [(5, .int v3), (0, .ref 276), (1, .int x1), (3, .int x3), (4, .int x4)]) dX4_spanNumber_41 (Nat.le_of_ble_eq_true rfl) rfl ?_
      refine z_iload_n dX4_spanNumber_43 3 rfl ?_
      refine z_iload dX4_spanNumber_44 0 rfl ?_
      refine z_icmp_ge 58 dX4_spanNumber_46 rfl (fun hc4 => ?_) (fun hc4 => ?_)
      · replace h := oT hc4 h
        refine z_iload_n dX4_spanNumber_58 3 rfl ?_
        refine z_iload dX4_spanNumber_59 0 rfl ?_
        refine z_isub dX4_spanNumber_61 ?_
        refine z_istore_n (M := mX4_spanNumber) (lv2 := [(3, .int (x3 - v3)), (5, .int v3), (0, .ref 276), (1, .int x1), (4, .int x4)]) dX4_spanNumber_62 (Nat.le_of_ble_eq_true rfl) rfl ?_
        refine z_iinc (M := mX4_spanNumber) (v := (x4 + (1 : Int32))) (lv2 := [(4, .int (x4 + (1 : Int32))), (3, .int (x3 - v3)), (5, .int v3), (0, .ref 276), (1, .int x1)]) dX4_spanNumber_63 4 rfl rfl (Nat.le_of_ble_eq_true rfl) rfl ?_
        refine z_goto 17 dX4_spanNumber_66 rfl ?_
        refine z_lv (lv2 := [(0, .ref 276), (1, .int x1), (3, .int (x3 - v3)), (4, .int (x4 + (1 : Int32)))]) [3, 4, 1, 0] rfl ?_
        exact ih x1 (x3 - v3) (x4 + (1 : Int32)) ν _ h
      · replace h := oF hc4 h
        refine z_aload_n dX4_spanNumber_49 1 rfl ?_
        refine z_iload_n dX4_spanNumber_50 2 rfl ?_
        refine z_iload dX4_spanNumber_51 4 rfl ?_
        refine z_iload_n dX4_spanNumber_53 3 rfl ?_
        obtain ⟨v5, he5, h⟩ := obind h
        refine y_Vi (M := mX4_spanNumber) (Y := mX4_spanInWord) (d2 := d - 1) (As := [.int x1, .int x4, .int x3]) (st := []) dX4_spanNumber_54 mlRX4_56 cv_X4_spanInWord zk_276 (ct_Rw_spanInWord (dle (Nat.le_of_ble_eq_true rfl) hd0) he5) (dps (Nat.le_of_ble_eq_true rfl) hd0) rfl rfl (Nat.le_of_ble_eq_true rfl) ?_
        cases h
        exact z_iret dX4_spanNumber_57 rfl
def Rw_spanNumber (x1 : Int32) (x2 : Int32) (ν : Nm) : Option (Int32 × Nm) :=
  (if 0 ≤ x2 then
    (Rw_learn x1 ν).bind fun v2 =>
    Rw_spanNumber_17 FU x1 x2 (0 : Int32) v2
  else
    some ((-2 : Int32), ν))
set_option maxRecDepth 100000 in
set_option maxHeartbeats 4000000 in
theorem t_Rw_spanNumber {g : GG} {d : Nat} (hd0 : 205 ≤ d) : ∀ (x1 : Int32) (x2 : Int32) (ν : Nm) (r : (Int32 × Nm)), Rw_spanNumber x1 x2 ν = some r → Z g d (0, 0) mX4_spanNumber 333 0 0 0 [(0, .ref 276), (1, .int x1), (2, .int x2)] [] (zem ν) (zF g (some (.int r.1), zem r.2)) := by
  intro x1 x2 ν r h
  unfold Rw_spanNumber at h
  refine z_iload_n dX4_spanNumber_0 2 rfl ?_
  refine z_if_ge 7 dX4_spanNumber_1 rfl (fun hc1 => ?_) (fun hc1 => ?_)
  · replace h := oT hc1 h
    refine z_aload_n dX4_spanNumber_7 0 rfl ?_
    refine z_iload_n dX4_spanNumber_8 1 rfl ?_
    obtain ⟨v2, he2, h⟩ := obind h
    refine y_Vv (M := mX4_spanNumber) (Y := mX4_learn) (d2 := d - 1) (As := [.int x1]) (st := []) dX4_spanNumber_9 mlRX4_42 cv_X4_learn zk_276 (ct_Rw_learn (dle (Nat.le_of_ble_eq_true rfl) hd0) he2) (dps (Nat.le_of_ble_eq_true rfl) hd0) rfl rfl (Nat.le_of_ble_eq_true rfl) ?_
    refine z_iload_n dX4_spanNumber_12 2 rfl ?_
    refine z_istore_n (M := mX4_spanNumber) (lv2 := [(3, .int x2), (0, .ref 276), (1, .int x1), (2, .int x2)]) dX4_spanNumber_13 (Nat.le_of_ble_eq_true rfl) rfl ?_
    refine z_iconst (M := mX4_spanNumber) (v := 0) dX4_spanNumber_14 rfl ?_
    refine z_istore (M := mX4_spanNumber) (lv2 := [(4, .int (0 : Int32)), (3, .int x2), (0, .ref 276), (1, .int x1), (2, .int x2)]) dX4_spanNumber_15 (Nat.le_of_ble_eq_true rfl) rfl ?_
    refine z_lv (lv2 := [(0, .ref 276), (1, .int x1), (3, .int x2), (4, .int (0 : Int32))]) [2, 3, 1, 0] rfl ?_
    exact t_Rw_spanNumber_17 hd0 FU x1 x2 (0 : Int32) v2 _ h
  · replace h := oF hc1 h
    refine z_bipush (M := mX4_spanNumber) (v := -2) dX4_spanNumber_4 rfl ?_
    cases h
    exact z_iret dX4_spanNumber_6 rfl
theorem ct_Rw_spanNumber {g : GG} {d : Nat} {x1 : Int32} {x2 : Int32} {ν : Nm} {r : (Int32 × Nm)} (hd0 : 205 ≤ d)  (h : Rw_spanNumber x1 x2 ν = some r) : Ct g d mX4_spanNumber [.ref 276, .int x1, .int x2] (zem ν) (some (.int r.1), zem r.2) := y_entry in_X4_spanNumber (Nat.le_of_ble_eq_true rfl) rfl (t_Rw_spanNumber hd0 x1 x2 ν r h)
-- FuseMinutes$Rows.nextMarked(III)I
theorem dX4_nextMarked_0 : decode cX4_nextMarked 0 = .ok (.iload_n 2, 1) := by decide +kernel
theorem dX4_nextMarked_1 : decode cX4_nextMarked 1 = .ok (.istore 4, 2) := by decide +kernel
theorem dX4_nextMarked_3 : decode cX4_nextMarked 3 = .ok (.iconst 0, 1) := by decide +kernel
theorem dX4_nextMarked_4 : decode cX4_nextMarked 4 = .ok (.istore 5, 2) := by decide +kernel
theorem dX4_nextMarked_6 : decode cX4_nextMarked 6 = .ok (.iload 5, 2) := by decide +kernel
theorem dX4_nextMarked_8 : decode cX4_nextMarked 8 = .ok (.sipush 15360, 3) := by decide +kernel
theorem dX4_nextMarked_11 : decode cX4_nextMarked 11 = .ok (.if_icmp .gt 102, 3) := by decide +kernel
theorem dX4_nextMarked_14 : decode cX4_nextMarked 14 = .ok (.iload 4, 2) := by decide +kernel
theorem dX4_nextMarked_16 : decode cX4_nextMarked 16 = .ok (.invokestatic 38, 3) := by decide +kernel
theorem dX4_nextMarked_19 : decode cX4_nextMarked 19 = .ok (.ifCond .eq 94, 3) := by decide +kernel
theorem dX4_nextMarked_22 : decode cX4_nextMarked 22 = .ok (.aload_n 0, 1) := by decide +kernel
theorem dX4_nextMarked_23 : decode cX4_nextMarked 23 = .ok (.iload_n 1, 1) := by decide +kernel
theorem dX4_nextMarked_24 : decode cX4_nextMarked 24 = .ok (.iload 4, 2) := by decide +kernel
theorem dX4_nextMarked_26 : decode cX4_nextMarked 26 = .ok (.invokevirtual 46, 3) := by decide +kernel
theorem dX4_nextMarked_29 : decode cX4_nextMarked 29 = .ok (.ifCond .eq 6, 3) := by decide +kernel
theorem dX4_nextMarked_32 : decode cX4_nextMarked 32 = .ok (.iload 4, 2) := by decide +kernel
theorem dX4_nextMarked_34 : decode cX4_nextMarked 34 = .ok (.ireturn, 1) := by decide +kernel
theorem dX4_nextMarked_35 : decode cX4_nextMarked 35 = .ok (.aload_n 0, 1) := by decide +kernel
theorem dX4_nextMarked_36 : decode cX4_nextMarked 36 = .ok (.getfield 9, 3) := by decide +kernel
theorem dX4_nextMarked_39 : decode cX4_nextMarked 39 = .ok (.iload_n 1, 1) := by decide +kernel
theorem dX4_nextMarked_40 : decode cX4_nextMarked 40 = .ok (.sipush 241, 3) := by decide +kernel
theorem dX4_nextMarked_43 : decode cX4_nextMarked 43 = .ok (.imul, 1) := by decide +kernel
theorem dX4_nextMarked_44 : decode cX4_nextMarked 44 = .ok (.iload 4, 2) := by decide +kernel
theorem dX4_nextMarked_46 : decode cX4_nextMarked 46 = .ok (.bipush 64, 2) := by decide +kernel
theorem dX4_nextMarked_48 : decode cX4_nextMarked 48 = .ok (.idiv, 1) := by decide +kernel
theorem dX4_nextMarked_49 : decode cX4_nextMarked 49 = .ok (.iadd, 1) := by decide +kernel
theorem dX4_nextMarked_50 : decode cX4_nextMarked 50 = .ok (.laload, 1) := by decide +kernel
theorem dX4_nextMarked_51 : decode cX4_nextMarked 51 = .ok (.lconst 0, 1) := by decide +kernel
theorem dX4_nextMarked_52 : decode cX4_nextMarked 52 = .ok (.lcmp, 1) := by decide +kernel
theorem dX4_nextMarked_53 : decode cX4_nextMarked 53 = .ok (.ifCond .ne 7, 3) := by decide +kernel
theorem dX4_nextMarked_56 : decode cX4_nextMarked 56 = .ok (.iconst 1, 1) := by decide +kernel
theorem dX4_nextMarked_57 : decode cX4_nextMarked 57 = .ok (.goto 4, 3) := by decide +kernel
theorem dX4_nextMarked_60 : decode cX4_nextMarked 60 = .ok (.iconst 0, 1) := by decide +kernel
theorem dX4_nextMarked_61 : decode cX4_nextMarked 61 = .ok (.istore 6, 2) := by decide +kernel
theorem dX4_nextMarked_63 : decode cX4_nextMarked 63 = .ok (.iload_n 3, 1) := by decide +kernel
theorem dX4_nextMarked_64 : decode cX4_nextMarked 64 = .ok (.ifCond .le 17, 3) := by decide +kernel
theorem dX4_nextMarked_67 : decode cX4_nextMarked 67 = .ok (.iload 4, 2) := by decide +kernel
theorem dX4_nextMarked_69 : decode cX4_nextMarked 69 = .ok (.bipush 64, 2) := by decide +kernel
theorem dX4_nextMarked_71 : decode cX4_nextMarked 71 = .ok (.idiv, 1) := by decide +kernel
theorem dX4_nextMarked_72 : decode cX4_nextMarked 72 = .ok (.bipush 64, 2) := by decide +kernel
theorem dX4_nextMarked_74 : decode cX4_nextMarked 74 = .ok (.imul, 1) := by decide +kernel
theorem dX4_nextMarked_75 : decode cX4_nextMarked 75 = .ok (.bipush 63, 2) := by decide +kernel
theorem dX4_nextMarked_77 : decode cX4_nextMarked 77 = .ok (.iadd, 1) := by decide +kernel
theorem dX4_nextMarked_78 : decode cX4_nextMarked 78 = .ok (.goto 11, 3) := by decide +kernel
theorem dX4_nextMarked_81 : decode cX4_nextMarked 81 = .ok (.iload 4, 2) := by decide +kernel
theorem dX4_nextMarked_83 : decode cX4_nextMarked 83 = .ok (.bipush 64, 2) := by decide +kernel
theorem dX4_nextMarked_85 : decode cX4_nextMarked 85 = .ok (.idiv, 1) := by decide +kernel
theorem dX4_nextMarked_86 : decode cX4_nextMarked 86 = .ok (.bipush 64, 2) := by decide +kernel
theorem dX4_nextMarked_88 : decode cX4_nextMarked 88 = .ok (.imul, 1) := by decide +kernel
theorem dX4_nextMarked_89 : decode cX4_nextMarked 89 = .ok (.istore 7, 2) := by decide +kernel
theorem dX4_nextMarked_91 : decode cX4_nextMarked 91 = .ok (.iload 6, 2) := by decide +kernel
theorem dX4_nextMarked_93 : decode cX4_nextMarked 93 = .ok (.ifCond .eq 8, 3) := by decide +kernel
theorem dX4_nextMarked_96 : decode cX4_nextMarked 96 = .ok (.iload 7, 2) := by decide +kernel
theorem dX4_nextMarked_98 : decode cX4_nextMarked 98 = .ok (.goto 5, 3) := by decide +kernel
theorem dX4_nextMarked_101 : decode cX4_nextMarked 101 = .ok (.iload 4, 2) := by decide +kernel
theorem dX4_nextMarked_103 : decode cX4_nextMarked 103 = .ok (.iload_n 3, 1) := by decide +kernel
theorem dX4_nextMarked_104 : decode cX4_nextMarked 104 = .ok (.iadd, 1) := by decide +kernel
theorem dX4_nextMarked_105 : decode cX4_nextMarked 105 = .ok (.istore 4, 2) := by decide +kernel
theorem dX4_nextMarked_107 : decode cX4_nextMarked 107 = .ok (.iinc 5 1, 3) := by decide +kernel
theorem dX4_nextMarked_110 : decode cX4_nextMarked 110 = .ok (.goto (-104), 3) := by decide +kernel
theorem dX4_nextMarked_113 : decode cX4_nextMarked 113 = .ok (.iconst (-1), 1) := by decide +kernel
theorem dX4_nextMarked_114 : decode cX4_nextMarked 114 = .ok (.ireturn, 1) := by decide +kernel
def Rw_nextMarked_103 (ν : Nm) (k6 : Int32 → Int32 → Int32 → Int32 → Option Int32) (x1 : Int32) (x3 : Int32) (x5 : Int32) (s0 : Int32) : Option Int32 :=
  k6 x1 x3 (s0 + x3) (x5 + (1 : Int32))
set_option maxRecDepth 100000 in
set_option maxHeartbeats 4000000 in
theorem t_Rw_nextMarked_103 {g : GG} {d : Nat} {ν : Nm} (hd0 : 3 ≤ d) {k6 : Int32 → Int32 → Int32 → Int32 → Option Int32} (hk6 : ∀ (x1 : Int32) (x3 : Int32) (x4 : Int32) (x5 : Int32) (r : Int32), k6 x1 x3 x4 x5 = some r → Z g d (0, 0) mX4_nextMarked 333 0 0 6 [(0, .ref 276), (1, .int x1), (3, .int x3), (4, .int x4), (5, .int x5)] [] (zem ν) (zF g (some (.int r), zem ν))) : ∀ (x1 : Int32) (x3 : Int32) (x5 : Int32) (s0 : Int32) (r : Int32), Rw_nextMarked_103 ν k6 x1 x3 x5 s0 = some r → Z g d (0, 0) mX4_nextMarked 333 0 0 103 [(0, .ref 276), (1, .int x1), (3, .int x3), (5, .int x5)] [.int s0] (zem ν) (zF g (some (.int r), zem ν)) := by
  intro x1 x3 x5 s0 r h
  unfold Rw_nextMarked_103 at h
  refine z_iload_n dX4_nextMarked_103 2 rfl ?_
  refine z_iadd dX4_nextMarked_104 ?_
  refine z_istore (M := mX4_nextMarked) (lv2 := [(4, .int (s0 + x3)), (0, .ref 276), (1, .int x1), (3, .int x3), (5, .int x5)]) dX4_nextMarked_105 (Nat.le_of_ble_eq_true rfl) rfl ?_
  refine z_iinc (M := mX4_nextMarked) (v := (x5 + (1 : Int32))) (lv2 := [(5, .int (x5 + (1 : Int32))), (4, .int (s0 + x3)), (0, .ref 276), (1, .int x1), (3, .int x3)]) dX4_nextMarked_107 4 rfl rfl (Nat.le_of_ble_eq_true rfl) rfl ?_
  refine z_goto 6 dX4_nextMarked_110 rfl ?_
  refine z_lv (lv2 := [(0, .ref 276), (1, .int x1), (3, .int x3), (4, .int (s0 + x3)), (5, .int (x5 + (1 : Int32)))]) [2, 3, 4, 1, 0] rfl ?_
  exact hk6 x1 x3 (s0 + x3) (x5 + (1 : Int32)) _ h
def Rw_nextMarked_89 (ν : Nm) (k6 : Int32 → Int32 → Int32 → Int32 → Option Int32) (x1 : Int32) (x3 : Int32) (x4 : Int32) (x5 : Int32) (x6 : Int32) (s0 : Int32) : Option Int32 :=
  (if x6 = 0 then
    Rw_nextMarked_103 ν k6 x1 x3 x5 x4
  else
    Rw_nextMarked_103 ν k6 x1 x3 x5 s0)
set_option maxRecDepth 100000 in
set_option maxHeartbeats 4000000 in
theorem t_Rw_nextMarked_89 {g : GG} {d : Nat} {ν : Nm} (hd0 : 3 ≤ d) {k6 : Int32 → Int32 → Int32 → Int32 → Option Int32} (hk6 : ∀ (x1 : Int32) (x3 : Int32) (x4 : Int32) (x5 : Int32) (r : Int32), k6 x1 x3 x4 x5 = some r → Z g d (0, 0) mX4_nextMarked 333 0 0 6 [(0, .ref 276), (1, .int x1), (3, .int x3), (4, .int x4), (5, .int x5)] [] (zem ν) (zF g (some (.int r), zem ν))) : ∀ (x1 : Int32) (x3 : Int32) (x4 : Int32) (x5 : Int32) (x6 : Int32) (s0 : Int32) (r : Int32), Rw_nextMarked_89 ν k6 x1 x3 x4 x5 x6 s0 = some r → Z g d (0, 0) mX4_nextMarked 333 0 0 89 [(0, .ref 276), (1, .int x1), (3, .int x3), (4, .int x4), (5, .int x5), (6, .int x6)] [.int s0] (zem ν) (zF g (some (.int r), zem ν)) := by
  intro x1 x3 x4 x5 x6 s0 r h
  unfold Rw_nextMarked_89 at h
  refine z_istore (M := mX4_nextMarked) (lv2 := [(7, .int s0), (0, .ref 276), (1, .int x1), (3, .int x3), (4, .int x4), (5, .int x5), (6, .int x6)]) dX4_nextMarked_89 (Nat.le_of_ble_eq_true rfl) rfl ?_
  refine z_iload dX4_nextMarked_91 6 rfl ?_
  refine z_if_eq 101 dX4_nextMarked_93 rfl (fun hc1 => ?_) (fun hc1 => ?_)
  · replace h := oT hc1 h
    refine z_iload dX4_nextMarked_101 4 rfl ?_
    refine z_lv (lv2 := [(0, .ref 276), (1, .int x1), (3, .int x3), (5, .int x5)]) [1, 2, 3, 5] rfl ?_
    exact t_Rw_nextMarked_103 hd0 hk6 x1 x3 x5 x4 _ h
  · replace h := oF hc1 h
    refine z_iload dX4_nextMarked_96 0 rfl ?_
    refine z_goto 103 dX4_nextMarked_98 rfl ?_
    refine z_lv (lv2 := [(0, .ref 276), (1, .int x1), (3, .int x3), (5, .int x5)]) [1, 2, 3, 5] rfl ?_
    exact t_Rw_nextMarked_103 hd0 hk6 x1 x3 x5 s0 _ h
def Rw_nextMarked_61 (ν : Nm) (k6 : Int32 → Int32 → Int32 → Int32 → Option Int32) (x1 : Int32) (x3 : Int32) (x4 : Int32) (x5 : Int32) (s0 : Int32) : Option Int32 :=
  (if x3 ≤ 0 then
    Rw_nextMarked_89 ν k6 x1 x3 x4 x5 s0 ((x4 / (64 : Int32)) * (64 : Int32))
  else
    Rw_nextMarked_89 ν k6 x1 x3 x4 x5 s0 (((x4 / (64 : Int32)) * (64 : Int32)) + (63 : Int32)))
set_option maxRecDepth 100000 in
set_option maxHeartbeats 4000000 in
theorem t_Rw_nextMarked_61 {g : GG} {d : Nat} {ν : Nm} (hd0 : 3 ≤ d) {k6 : Int32 → Int32 → Int32 → Int32 → Option Int32} (hk6 : ∀ (x1 : Int32) (x3 : Int32) (x4 : Int32) (x5 : Int32) (r : Int32), k6 x1 x3 x4 x5 = some r → Z g d (0, 0) mX4_nextMarked 333 0 0 6 [(0, .ref 276), (1, .int x1), (3, .int x3), (4, .int x4), (5, .int x5)] [] (zem ν) (zF g (some (.int r), zem ν))) : ∀ (x1 : Int32) (x3 : Int32) (x4 : Int32) (x5 : Int32) (s0 : Int32) (r : Int32), Rw_nextMarked_61 ν k6 x1 x3 x4 x5 s0 = some r → Z g d (0, 0) mX4_nextMarked 333 0 0 61 [(0, .ref 276), (1, .int x1), (3, .int x3), (4, .int x4), (5, .int x5)] [.int s0] (zem ν) (zF g (some (.int r), zem ν)) := by
  intro x1 x3 x4 x5 s0 r h
  unfold Rw_nextMarked_61 at h
  refine z_istore (M := mX4_nextMarked) (lv2 := [(6, .int s0), (0, .ref 276), (1, .int x1), (3, .int x3), (4, .int x4), (5, .int x5)]) dX4_nextMarked_61 (Nat.le_of_ble_eq_true rfl) rfl ?_
  refine z_iload_n dX4_nextMarked_63 3 rfl ?_
  refine z_if_le 81 dX4_nextMarked_64 rfl (fun hc1 => ?_) (fun hc1 => ?_)
  · replace h := oT hc1 h
    refine z_iload dX4_nextMarked_81 4 rfl ?_
    refine z_bipush (M := mX4_nextMarked) (v := 64) dX4_nextMarked_83 rfl ?_
    refine z_idiv dX4_nextMarked_85 (by decide) ?_
    refine z_bipush (M := mX4_nextMarked) (v := 64) dX4_nextMarked_86 rfl ?_
    refine z_imul dX4_nextMarked_88 ?_
    refine z_lv (lv2 := [(0, .ref 276), (1, .int x1), (3, .int x3), (4, .int x4), (5, .int x5), (6, .int s0)]) [1, 2, 3, 4, 5, 0] rfl ?_
    exact t_Rw_nextMarked_89 hd0 hk6 x1 x3 x4 x5 s0 ((x4 / (64 : Int32)) * (64 : Int32)) _ h
  · replace h := oF hc1 h
    refine z_iload dX4_nextMarked_67 4 rfl ?_
    refine z_bipush (M := mX4_nextMarked) (v := 64) dX4_nextMarked_69 rfl ?_
    refine z_idiv dX4_nextMarked_71 (by decide) ?_
    refine z_bipush (M := mX4_nextMarked) (v := 64) dX4_nextMarked_72 rfl ?_
    refine z_imul dX4_nextMarked_74 ?_
    refine z_bipush (M := mX4_nextMarked) (v := 63) dX4_nextMarked_75 rfl ?_
    refine z_iadd dX4_nextMarked_77 ?_
    refine z_goto 89 dX4_nextMarked_78 rfl ?_
    refine z_lv (lv2 := [(0, .ref 276), (1, .int x1), (3, .int x3), (4, .int x4), (5, .int x5), (6, .int s0)]) [1, 2, 3, 4, 5, 0] rfl ?_
    exact t_Rw_nextMarked_89 hd0 hk6 x1 x3 x4 x5 s0 (((x4 / (64 : Int32)) * (64 : Int32)) + (63 : Int32)) _ h
def Rw_nextMarked_6 (ν : Nm) : Nat → Int32 → Int32 → Int32 → Int32 → Option Int32
  | 0, _, _, _, _ => none
  | f + 1, x1, x3, x4, x5 =>
    (if (15360 : Int32) < x5 then
      some (-1 : Int32)
    else
      (Fm_isSpan x4).bind fun v2 =>
      (if (b2i v2) = 0 then
        some (-1 : Int32)
      else
        (Rw_marked ν x1 x4).bind fun v4 =>
        (if (b2i v4) = 0 then
          if inb ((x1 * (241 : Int32)) + (x4 / (64 : Int32))) 3856 then
          (if ¬ (lg_cmp (gl ν 277 ((x1 * (241 : Int32)) + (x4 / (64 : Int32))).toNatClampNeg) (0 : Int64)) = 0 then
            Rw_nextMarked_61 ν (Rw_nextMarked_6 ν f) x1 x3 x4 x5 (0 : Int32)
          else
            Rw_nextMarked_61 ν (Rw_nextMarked_6 ν f) x1 x3 x4 x5 (1 : Int32))
          else none
        else
          some x4)))
set_option maxRecDepth 100000 in
set_option maxHeartbeats 4000000 in
theorem t_Rw_nextMarked_6 {g : GG} {d : Nat} {ν : Nm} (hd0 : 3 ≤ d) : ∀ (f : Nat), ∀ (x1 : Int32) (x3 : Int32) (x4 : Int32) (x5 : Int32) (r : Int32), Rw_nextMarked_6 ν f x1 x3 x4 x5 = some r → Z g d (0, 0) mX4_nextMarked 333 0 0 6 [(0, .ref 276), (1, .int x1), (3, .int x3), (4, .int x4), (5, .int x5)] [] (zem ν) (zF g (some (.int r), zem ν)) := by
  intro f
  induction f with
  | zero =>
    intro x1 x3 x4 x5 r h
    cases h
  | succ f ih =>
    intro x1 x3 x4 x5 r h
    rw [Rw_nextMarked_6] at h
    refine z_iload dX4_nextMarked_6 4 rfl ?_
    refine z_sipush (M := mX4_nextMarked) (v := 15360) dX4_nextMarked_8 rfl ?_
    refine z_icmp_gt 113 dX4_nextMarked_11 rfl (fun hc1 => ?_) (fun hc1 => ?_)
    · replace h := oT hc1 h
      refine z_iconst (M := mX4_nextMarked) (v := -1) dX4_nextMarked_113 rfl ?_
      cases h
      exact z_iret dX4_nextMarked_114 rfl
    · replace h := oF hc1 h
      refine z_iload dX4_nextMarked_14 3 rfl ?_
      obtain ⟨v2, he2, h⟩ := obind h
      refine y_Ni (M := mX4_nextMarked) (Y := mX11_isSpan) (d2 := d - 1) (As := [.int x4]) (st := []) dX4_nextMarked_16 nlRX4_38 cv_X11_isSpan (ct_Fm_isSpan (dle (Nat.le_of_ble_eq_true rfl) hd0) he2) (dps (Nat.le_of_ble_eq_true rfl) hd0) rfl rfl (Nat.le_of_ble_eq_true rfl) ?_
      refine z_if_eq 113 dX4_nextMarked_19 rfl (fun hc3 => ?_) (fun hc3 => ?_)
      · replace h := oT hc3 h
        refine z_iconst (M := mX4_nextMarked) (v := -1) dX4_nextMarked_113 rfl ?_
        cases h
        exact z_iret dX4_nextMarked_114 rfl
      · replace h := oF hc3 h
        refine z_aload_n dX4_nextMarked_22 0 rfl ?_
        refine z_iload_n dX4_nextMarked_23 1 rfl ?_
        refine z_iload dX4_nextMarked_24 3 rfl ?_
        obtain ⟨v4, he4, h⟩ := obind h
        refine y_Vi (M := mX4_nextMarked) (Y := mX4_marked) (d2 := d - 1) (As := [.int x1, .int x4]) (st := []) dX4_nextMarked_26 mlRX4_46 cv_X4_marked zk_276 (ct_Rw_marked (dle (Nat.le_of_ble_eq_true rfl) hd0) he4) (dps (Nat.le_of_ble_eq_true rfl) hd0) rfl rfl (Nat.le_of_ble_eq_true rfl) ?_
        refine z_if_eq 35 dX4_nextMarked_29 rfl (fun hc5 => ?_) (fun hc5 => ?_)
        · replace h := oT hc5 h
          refine z_aload_n dX4_nextMarked_35 0 rfl ?_
          refine y_getR (M := mX4_nextMarked) (r := 277) dX4_nextMarked_36 zk_276 flRX4_9 fr_3_3.1 (fr_3_3.2 _) ?_
          refine z_iload_n dX4_nextMarked_39 1 rfl ?_
          refine z_sipush (M := mX4_nextMarked) (v := 241) dX4_nextMarked_40 rfl ?_
          refine z_imul dX4_nextMarked_43 ?_
          refine z_iload dX4_nextMarked_44 3 rfl ?_
          refine z_bipush (M := mX4_nextMarked) (v := 64) dX4_nextMarked_46 rfl ?_
          refine z_idiv dX4_nextMarked_48 (by decide) ?_
          refine z_iadd dX4_nextMarked_49 ?_
          obtain ⟨hi6, h⟩ := oif h
          refine y_lald (M := mX4_nextMarked) (jj := ((x1 * (241 : Int32)) + (x4 / (64 : Int32))).toNatClampNeg) dX4_nextMarked_50 zk_277 hi6 rfl ?_
          refine z_lconst (M := mX4_nextMarked) (v := 0) dX4_nextMarked_51 rfl ?_
          refine z_lcmp dX4_nextMarked_52 ?_
          refine z_if_ne 60 dX4_nextMarked_53 rfl (fun hc7 => ?_) (fun hc7 => ?_)
          · replace h := oT hc7 h
            refine z_iconst (M := mX4_nextMarked) (v := 0) dX4_nextMarked_60 rfl ?_
            exact t_Rw_nextMarked_61 hd0 ih x1 x3 x4 x5 (0 : Int32) _ h
          · replace h := oFn hc7 h
            refine z_iconst (M := mX4_nextMarked) (v := 1) dX4_nextMarked_56 rfl ?_
            refine z_goto 61 dX4_nextMarked_57 rfl ?_
            exact t_Rw_nextMarked_61 hd0 ih x1 x3 x4 x5 (1 : Int32) _ h
        · replace h := oF hc5 h
          refine z_iload dX4_nextMarked_32 3 rfl ?_
          cases h
          exact z_iret dX4_nextMarked_34 rfl
def Rw_nextMarked (ν : Nm) (x1 : Int32) (x2 : Int32) (x3 : Int32) : Option Int32 :=
  Rw_nextMarked_6 ν FU x1 x3 x2 (0 : Int32)
set_option maxRecDepth 100000 in
set_option maxHeartbeats 4000000 in
theorem t_Rw_nextMarked {g : GG} {d : Nat} {ν : Nm} (hd0 : 3 ≤ d) : ∀ (x1 : Int32) (x2 : Int32) (x3 : Int32) (r : Int32), Rw_nextMarked ν x1 x2 x3 = some r → Z g d (0, 0) mX4_nextMarked 333 0 0 0 [(0, .ref 276), (1, .int x1), (2, .int x2), (3, .int x3)] [] (zem ν) (zF g (some (.int r), zem ν)) := by
  intro x1 x2 x3 r h
  unfold Rw_nextMarked at h
  refine z_iload_n dX4_nextMarked_0 2 rfl ?_
  refine z_istore (M := mX4_nextMarked) (lv2 := [(4, .int x2), (0, .ref 276), (1, .int x1), (2, .int x2), (3, .int x3)]) dX4_nextMarked_1 (Nat.le_of_ble_eq_true rfl) rfl ?_
  refine z_iconst (M := mX4_nextMarked) (v := 0) dX4_nextMarked_3 rfl ?_
  refine z_istore (M := mX4_nextMarked) (lv2 := [(5, .int (0 : Int32)), (4, .int x2), (0, .ref 276), (1, .int x1), (2, .int x2), (3, .int x3)]) dX4_nextMarked_4 (Nat.le_of_ble_eq_true rfl) rfl ?_
  refine z_lv (lv2 := [(0, .ref 276), (1, .int x1), (3, .int x3), (4, .int x2), (5, .int (0 : Int32))]) [2, 3, 5, 1, 0] rfl ?_
  exact t_Rw_nextMarked_6 hd0 FU x1 x3 x2 (0 : Int32) _ h
theorem ct_Rw_nextMarked {g : GG} {d : Nat} {x1 : Int32} {x2 : Int32} {x3 : Int32} {ν : Nm} {r : Int32} (hd0 : 3 ≤ d)  (h : Rw_nextMarked ν x1 x2 x3 = some r) : Ct g d mX4_nextMarked [.ref 276, .int x1, .int x2, .int x3] (zem ν) (some (.int r), zem ν) := y_entry in_X4_nextMarked (Nat.le_of_ble_eq_true rfl) rfl (t_Rw_nextMarked hd0 x1 x2 x3 r h)
-- FuseMinutes$Rows.nearestTo(II)I
theorem dX4_nearestTo_0 : decode cX4_nearestTo 0 = .ok (.aload_n 0, 1) := by decide +kernel
theorem dX4_nearestTo_1 : decode cX4_nearestTo 1 = .ok (.iload_n 1, 1) := by decide +kernel
theorem dX4_nearestTo_2 : decode cX4_nearestTo 2 = .ok (.invokevirtual 42, 3) := by decide +kernel
theorem dX4_nearestTo_5 : decode cX4_nearestTo 5 = .ok (.aload_n 0, 1) := by decide +kernel
theorem dX4_nearestTo_6 : decode cX4_nearestTo 6 = .ok (.iload_n 1, 1) := by decide +kernel
theorem dX4_nearestTo_7 : decode cX4_nearestTo 7 = .ok (.iload_n 2, 1) := by decide +kernel
theorem dX4_nearestTo_8 : decode cX4_nearestTo 8 = .ok (.iconst (-1), 1) := by decide +kernel
theorem dX4_nearestTo_9 : decode cX4_nearestTo 9 = .ok (.invokevirtual 60, 3) := by decide +kernel
theorem dX4_nearestTo_12 : decode cX4_nearestTo 12 = .ok (.istore_n 3, 1) := by decide +kernel
theorem dX4_nearestTo_13 : decode cX4_nearestTo 13 = .ok (.aload_n 0, 1) := by decide +kernel
theorem dX4_nearestTo_14 : decode cX4_nearestTo 14 = .ok (.iload_n 1, 1) := by decide +kernel
theorem dX4_nearestTo_15 : decode cX4_nearestTo 15 = .ok (.iload_n 2, 1) := by decide +kernel
theorem dX4_nearestTo_16 : decode cX4_nearestTo 16 = .ok (.iconst 1, 1) := by decide +kernel
theorem dX4_nearestTo_17 : decode cX4_nearestTo 17 = .ok (.invokevirtual 60, 3) := by decide +kernel
theorem dX4_nearestTo_20 : decode cX4_nearestTo 20 = .ok (.istore 4, 2) := by decide +kernel
theorem dX4_nearestTo_22 : decode cX4_nearestTo 22 = .ok (.iload_n 3, 1) := by decide +kernel
theorem dX4_nearestTo_23 : decode cX4_nearestTo 23 = .ok (.iconst (-1), 1) := by decide +kernel
theorem dX4_nearestTo_24 : decode cX4_nearestTo 24 = .ok (.if_icmp .eq 9, 3) := by decide +kernel
theorem dX4_nearestTo_27 : decode cX4_nearestTo 27 = .ok (.iload 4, 2) := by decide +kernel
theorem dX4_nearestTo_29 : decode cX4_nearestTo 29 = .ok (.iconst (-1), 1) := by decide +kernel
theorem dX4_nearestTo_30 : decode cX4_nearestTo 30 = .ok (.if_icmp .ne 15, 3) := by decide +kernel
theorem dX4_nearestTo_33 : decode cX4_nearestTo 33 = .ok (.iload_n 3, 1) := by decide +kernel
theorem dX4_nearestTo_34 : decode cX4_nearestTo 34 = .ok (.iconst (-1), 1) := by decide +kernel
theorem dX4_nearestTo_35 : decode cX4_nearestTo 35 = .ok (.if_icmp .ne 8, 3) := by decide +kernel
theorem dX4_nearestTo_38 : decode cX4_nearestTo 38 = .ok (.iload 4, 2) := by decide +kernel
theorem dX4_nearestTo_40 : decode cX4_nearestTo 40 = .ok (.goto 4, 3) := by decide +kernel
theorem dX4_nearestTo_43 : decode cX4_nearestTo 43 = .ok (.iload_n 3, 1) := by decide +kernel
theorem dX4_nearestTo_44 : decode cX4_nearestTo 44 = .ok (.ireturn, 1) := by decide +kernel
theorem dX4_nearestTo_45 : decode cX4_nearestTo 45 = .ok (.iload_n 2, 1) := by decide +kernel
theorem dX4_nearestTo_46 : decode cX4_nearestTo 46 = .ok (.iload_n 3, 1) := by decide +kernel
theorem dX4_nearestTo_47 : decode cX4_nearestTo 47 = .ok (.isub, 1) := by decide +kernel
theorem dX4_nearestTo_48 : decode cX4_nearestTo 48 = .ok (.iload 4, 2) := by decide +kernel
theorem dX4_nearestTo_50 : decode cX4_nearestTo 50 = .ok (.iload_n 2, 1) := by decide +kernel
theorem dX4_nearestTo_51 : decode cX4_nearestTo 51 = .ok (.isub, 1) := by decide +kernel
theorem dX4_nearestTo_52 : decode cX4_nearestTo 52 = .ok (.if_icmp .gt 7, 3) := by decide +kernel
theorem dX4_nearestTo_55 : decode cX4_nearestTo 55 = .ok (.iload_n 3, 1) := by decide +kernel
theorem dX4_nearestTo_56 : decode cX4_nearestTo 56 = .ok (.goto 5, 3) := by decide +kernel
theorem dX4_nearestTo_59 : decode cX4_nearestTo 59 = .ok (.iload 4, 2) := by decide +kernel
theorem dX4_nearestTo_61 : decode cX4_nearestTo 61 = .ok (.ireturn, 1) := by decide +kernel
def Rw_nearestTo_33 (x3 : Int32) (x4 : Int32) (ν : Nm) : Option (Int32 × Nm) :=
  (if ¬ x3 = (-1 : Int32) then
    some (x3, ν)
  else
    some (x4, ν))
set_option maxRecDepth 100000 in
set_option maxHeartbeats 4000000 in
theorem t_Rw_nearestTo_33 {g : GG} {d : Nat} (hd0 : 205 ≤ d) : ∀ (x3 : Int32) (x4 : Int32) (ν : Nm) (r : (Int32 × Nm)), Rw_nearestTo_33 x3 x4 ν = some r → Z g d (0, 0) mX4_nearestTo 333 0 0 33 [(3, .int x3), (4, .int x4)] [] (zem ν) (zF g (some (.int r.1), zem r.2)) := by
  intro x3 x4 ν r h
  unfold Rw_nearestTo_33 at h
  refine z_iload_n dX4_nearestTo_33 0 rfl ?_
  refine z_iconst (M := mX4_nearestTo) (v := -1) dX4_nearestTo_34 rfl ?_
  refine z_icmp_ne 43 dX4_nearestTo_35 rfl (fun hc1 => ?_) (fun hc1 => ?_)
  · replace h := oT hc1 h
    refine z_iload_n dX4_nearestTo_43 0 rfl ?_
    cases h
    exact z_iret dX4_nearestTo_44 rfl
  · replace h := oFn hc1 h
    refine z_iload dX4_nearestTo_38 1 rfl ?_
    refine z_goto 44 dX4_nearestTo_40 rfl ?_
    cases h
    exact z_iret dX4_nearestTo_44 rfl
def Rw_nearestTo (x1 : Int32) (x2 : Int32) (ν : Nm) : Option (Int32 × Nm) :=
  (Rw_learn x1 ν).bind fun v1 =>
  (Rw_nextMarked v1 x1 x2 (-1 : Int32)).bind fun v2 =>
  (Rw_nextMarked v1 x1 x2 (1 : Int32)).bind fun v3 =>
  (if v2 = (-1 : Int32) then
    Rw_nearestTo_33 v2 v3 v1
  else
    (if ¬ v3 = (-1 : Int32) then
      (if (v3 - x2) < (x2 - v2) then
        some (v3, v1)
      else
        some (v2, v1))
    else
      Rw_nearestTo_33 v2 v3 v1))
set_option maxRecDepth 100000 in
set_option maxHeartbeats 4000000 in
theorem t_Rw_nearestTo {g : GG} {d : Nat} (hd0 : 205 ≤ d) : ∀ (x1 : Int32) (x2 : Int32) (ν : Nm) (r : (Int32 × Nm)), Rw_nearestTo x1 x2 ν = some r → Z g d (0, 0) mX4_nearestTo 333 0 0 0 [(0, .ref 276), (1, .int x1), (2, .int x2)] [] (zem ν) (zF g (some (.int r.1), zem r.2)) := by
  intro x1 x2 ν r h
  unfold Rw_nearestTo at h
  refine z_aload_n dX4_nearestTo_0 0 rfl ?_
  refine z_iload_n dX4_nearestTo_1 1 rfl ?_
  obtain ⟨v1, he1, h⟩ := obind h
  refine y_Vv (M := mX4_nearestTo) (Y := mX4_learn) (d2 := d - 1) (As := [.int x1]) (st := []) dX4_nearestTo_2 mlRX4_42 cv_X4_learn zk_276 (ct_Rw_learn (dle (Nat.le_of_ble_eq_true rfl) hd0) he1) (dps (Nat.le_of_ble_eq_true rfl) hd0) rfl rfl (Nat.le_of_ble_eq_true rfl) ?_
  refine z_aload_n dX4_nearestTo_5 0 rfl ?_
  refine z_iload_n dX4_nearestTo_6 1 rfl ?_
  refine z_iload_n dX4_nearestTo_7 2 rfl ?_
  refine z_iconst (M := mX4_nearestTo) (v := -1) dX4_nearestTo_8 rfl ?_
  obtain ⟨v2, he2, h⟩ := obind h
  refine y_Vi (M := mX4_nearestTo) (Y := mX4_nextMarked) (d2 := d - 1) (As := [.int x1, .int x2, .int (-1 : Int32)]) (st := []) dX4_nearestTo_9 mlRX4_60 cv_X4_nextMarked zk_276 (ct_Rw_nextMarked (dle (Nat.le_of_ble_eq_true rfl) hd0) he2) (dps (Nat.le_of_ble_eq_true rfl) hd0) rfl rfl (Nat.le_of_ble_eq_true rfl) ?_
  refine z_istore_n (M := mX4_nearestTo) (lv2 := [(3, .int v2), (0, .ref 276), (1, .int x1), (2, .int x2)]) dX4_nearestTo_12 (Nat.le_of_ble_eq_true rfl) rfl ?_
  refine z_aload_n dX4_nearestTo_13 1 rfl ?_
  refine z_iload_n dX4_nearestTo_14 2 rfl ?_
  refine z_iload_n dX4_nearestTo_15 3 rfl ?_
  refine z_iconst (M := mX4_nearestTo) (v := 1) dX4_nearestTo_16 rfl ?_
  obtain ⟨v3, he3, h⟩ := obind h
  refine y_Vi (M := mX4_nearestTo) (Y := mX4_nextMarked) (d2 := d - 1) (As := [.int x1, .int x2, .int (1 : Int32)]) (st := []) dX4_nearestTo_17 mlRX4_60 cv_X4_nextMarked zk_276 (ct_Rw_nextMarked (dle (Nat.le_of_ble_eq_true rfl) hd0) he3) (dps (Nat.le_of_ble_eq_true rfl) hd0) rfl rfl (Nat.le_of_ble_eq_true rfl) ?_
  refine z_istore (M := mX4_nearestTo) (lv2 := [(4, .int v3), (3, .int v2), (0, .ref 276), (1, .int x1), (2, .int x2)]) dX4_nearestTo_20 (Nat.le_of_ble_eq_true rfl) rfl ?_
  refine z_iload_n dX4_nearestTo_22 1 rfl ?_
  refine z_iconst (M := mX4_nearestTo) (v := -1) dX4_nearestTo_23 rfl ?_
  refine z_icmp_eq 33 dX4_nearestTo_24 rfl (fun hc4 => ?_) (fun hc4 => ?_)
  · replace h := oT hc4 h
    refine z_lv (lv2 := [(3, .int v2), (4, .int v3)]) [1, 0] rfl ?_
    exact t_Rw_nearestTo_33 hd0  v2 v3 v1 _ h
  · replace h := oF hc4 h
    refine z_iload dX4_nearestTo_27 0 rfl ?_
    refine z_iconst (M := mX4_nearestTo) (v := -1) dX4_nearestTo_29 rfl ?_
    refine z_icmp_ne 45 dX4_nearestTo_30 rfl (fun hc5 => ?_) (fun hc5 => ?_)
    · replace h := oT hc5 h
      refine z_iload_n dX4_nearestTo_45 4 rfl ?_
      refine z_iload_n dX4_nearestTo_46 1 rfl ?_
      refine z_isub dX4_nearestTo_47 ?_
      refine z_iload dX4_nearestTo_48 0 rfl ?_
      refine z_iload_n dX4_nearestTo_50 4 rfl ?_
      refine z_isub dX4_nearestTo_51 ?_
      refine z_icmp_gt 59 dX4_nearestTo_52 rfl (fun hc6 => ?_) (fun hc6 => ?_)
      · replace h := oT hc6 h
        refine z_iload dX4_nearestTo_59 0 rfl ?_
        cases h
        exact z_iret dX4_nearestTo_61 rfl
      · replace h := oF hc6 h
        refine z_iload_n dX4_nearestTo_55 1 rfl ?_
        refine z_goto 61 dX4_nearestTo_56 rfl ?_
        cases h
        exact z_iret dX4_nearestTo_61 rfl
    · replace h := oFn hc5 h
      refine z_lv (lv2 := [(3, .int v2), (4, .int v3)]) [1, 0] rfl ?_
      exact t_Rw_nearestTo_33 hd0  v2 v3 v1 _ h
theorem ct_Rw_nearestTo {g : GG} {d : Nat} {x1 : Int32} {x2 : Int32} {ν : Nm} {r : (Int32 × Nm)} (hd0 : 205 ≤ d)  (h : Rw_nearestTo x1 x2 ν = some r) : Ct g d mX4_nearestTo [.ref 276, .int x1, .int x2] (zem ν) (some (.int r.1), zem r.2) := y_entry in_X4_nearestTo (Nat.le_of_ble_eq_true rfl) rfl (t_Rw_nearestTo hd0 x1 x2 ν r h)
-- FuseMinutes$Rows.findRow(II)Z
theorem dX4_findRow_0 : decode cX4_findRow 0 = .ok (.aload_n 0, 1) := by decide +kernel
theorem dX4_findRow_1 : decode cX4_findRow 1 = .ok (.getfield 31, 3) := by decide +kernel
theorem dX4_findRow_4 : decode cX4_findRow 4 = .ok (.iload_n 1, 1) := by decide +kernel
theorem dX4_findRow_5 : decode cX4_findRow 5 = .ok (.if_icmp .ne 13, 3) := by decide +kernel
theorem dX4_findRow_8 : decode cX4_findRow 8 = .ok (.aload_n 0, 1) := by decide +kernel
theorem dX4_findRow_9 : decode cX4_findRow 9 = .ok (.getfield 70, 3) := by decide +kernel
theorem dX4_findRow_12 : decode cX4_findRow 12 = .ok (.iload_n 2, 1) := by decide +kernel
theorem dX4_findRow_13 : decode cX4_findRow 13 = .ok (.if_icmp .ne 5, 3) := by decide +kernel
theorem dX4_findRow_16 : decode cX4_findRow 16 = .ok (.iconst 1, 1) := by decide +kernel
theorem dX4_findRow_17 : decode cX4_findRow 17 = .ok (.ireturn, 1) := by decide +kernel
theorem dX4_findRow_18 : decode cX4_findRow 18 = .ok (.aload_n 0, 1) := by decide +kernel
theorem dX4_findRow_19 : decode cX4_findRow 19 = .ok (.iload_n 1, 1) := by decide +kernel
theorem dX4_findRow_20 : decode cX4_findRow 20 = .ok (.iload_n 2, 1) := by decide +kernel
theorem dX4_findRow_21 : decode cX4_findRow 21 = .ok (.invokevirtual 73, 3) := by decide +kernel
theorem dX4_findRow_24 : decode cX4_findRow 24 = .ok (.ifCond .ne 5, 3) := by decide +kernel
theorem dX4_findRow_27 : decode cX4_findRow 27 = .ok (.iconst 0, 1) := by decide +kernel
theorem dX4_findRow_28 : decode cX4_findRow 28 = .ok (.ireturn, 1) := by decide +kernel
theorem dX4_findRow_29 : decode cX4_findRow 29 = .ok (.iconst 1, 1) := by decide +kernel
theorem dX4_findRow_30 : decode cX4_findRow 30 = .ok (.istore_n 3, 1) := by decide +kernel
theorem dX4_findRow_31 : decode cX4_findRow 31 = .ok (.iload_n 3, 1) := by decide +kernel
theorem dX4_findRow_32 : decode cX4_findRow 32 = .ok (.iconst 4, 1) := by decide +kernel
theorem dX4_findRow_33 : decode cX4_findRow 33 = .ok (.if_icmp .gt 41, 3) := by decide +kernel
theorem dX4_findRow_36 : decode cX4_findRow 36 = .ok (.aload_n 0, 1) := by decide +kernel
theorem dX4_findRow_37 : decode cX4_findRow 37 = .ok (.iload_n 1, 1) := by decide +kernel
theorem dX4_findRow_38 : decode cX4_findRow 38 = .ok (.iload_n 2, 1) := by decide +kernel
theorem dX4_findRow_39 : decode cX4_findRow 39 = .ok (.iload_n 3, 1) := by decide +kernel
theorem dX4_findRow_40 : decode cX4_findRow 40 = .ok (.invokevirtual 63, 3) := by decide +kernel
theorem dX4_findRow_43 : decode cX4_findRow 43 = .ok (.aload_n 0, 1) := by decide +kernel
theorem dX4_findRow_44 : decode cX4_findRow 44 = .ok (.iconst 0, 1) := by decide +kernel
theorem dX4_findRow_45 : decode cX4_findRow 45 = .ok (.invokevirtual 67, 3) := by decide +kernel
theorem dX4_findRow_48 : decode cX4_findRow 48 = .ok (.ifCond .eq 20, 3) := by decide +kernel
theorem dX4_findRow_51 : decode cX4_findRow 51 = .ok (.aload_n 0, 1) := by decide +kernel
theorem dX4_findRow_52 : decode cX4_findRow 52 = .ok (.iload_n 1, 1) := by decide +kernel
theorem dX4_findRow_53 : decode cX4_findRow 53 = .ok (.putfield 31, 3) := by decide +kernel
theorem dX4_findRow_56 : decode cX4_findRow 56 = .ok (.aload_n 0, 1) := by decide +kernel
theorem dX4_findRow_57 : decode cX4_findRow 57 = .ok (.iload_n 2, 1) := by decide +kernel
theorem dX4_findRow_58 : decode cX4_findRow 58 = .ok (.putfield 70, 3) := by decide +kernel
theorem dX4_findRow_61 : decode cX4_findRow 61 = .ok (.aload_n 0, 1) := by decide +kernel
theorem dX4_findRow_62 : decode cX4_findRow 62 = .ok (.iload_n 3, 1) := by decide +kernel
theorem dX4_findRow_63 : decode cX4_findRow 63 = .ok (.putfield 76, 3) := by decide +kernel
theorem dX4_findRow_66 : decode cX4_findRow 66 = .ok (.iconst 1, 1) := by decide +kernel
theorem dX4_findRow_67 : decode cX4_findRow 67 = .ok (.ireturn, 1) := by decide +kernel
theorem dX4_findRow_68 : decode cX4_findRow 68 = .ok (.iinc 3 1, 3) := by decide +kernel
theorem dX4_findRow_71 : decode cX4_findRow 71 = .ok (.goto (-40), 3) := by decide +kernel
theorem dX4_findRow_74 : decode cX4_findRow 74 = .ok (.iconst 0, 1) := by decide +kernel
theorem dX4_findRow_75 : decode cX4_findRow 75 = .ok (.ireturn, 1) := by decide +kernel
def Rw_findRow_31 : Nat → Int32 → Int32 → Int32 → Nm → Option (Bool × Nm)
  | 0, _, _, _, _ => none
  | f + 1, x1, x2, x3, ν =>
    (if (4 : Int32) < x3 then
      some (false, ν)
    else
      (Rw_begin x1 x2 x3 ν).bind fun v2 =>
      (G_wk FR 0 (0 : Int32) v2).bind fun v3 =>
      (if (b2i v3.1) = 0 then
        (Rw_findRow_31 f) x1 x2 (x3 + (1 : Int32)) v3.2
      else
        some (true, (si (si (si v3.2 276 5 x1) 276 6 x2) 276 2 x3))))
set_option maxRecDepth 100000 in
set_option maxHeartbeats 4000000 in
theorem t_Rw_findRow_31 {g : GG} {d : Nat} (hd0 : 206 ≤ d) : ∀ (f : Nat), ∀ (x1 : Int32) (x2 : Int32) (x3 : Int32) (ν : Nm) (r : (Bool × Nm)), Rw_findRow_31 f x1 x2 x3 ν = some r → Z g d (0, 0) mX4_findRow 333 0 0 31 [(0, .ref 276), (1, .int x1), (2, .int x2), (3, .int x3)] [] (zem ν) (zF g (some (.int (b2i r.1)), zem r.2)) := by
  intro f
  induction f with
  | zero =>
    intro x1 x2 x3 ν r h
    cases h
  | succ f ih =>
    intro x1 x2 x3 ν r h
    rw [Rw_findRow_31] at h
    refine z_iload_n dX4_findRow_31 3 rfl ?_
    refine z_iconst (M := mX4_findRow) (v := 4) dX4_findRow_32 rfl ?_
    refine z_icmp_gt 74 dX4_findRow_33 rfl (fun hc1 => ?_) (fun hc1 => ?_)
    · replace h := oT hc1 h
      refine z_iconst (M := mX4_findRow) (v := 0) dX4_findRow_74 rfl ?_
      cases h
      exact z_zret dX4_findRow_75 rfl rfl
    · replace h := oF hc1 h
      refine z_aload_n dX4_findRow_36 0 rfl ?_
      refine z_iload_n dX4_findRow_37 1 rfl ?_
      refine z_iload_n dX4_findRow_38 2 rfl ?_
      refine z_iload_n dX4_findRow_39 3 rfl ?_
      obtain ⟨v2, he2, h⟩ := obind h
      refine y_Vv (M := mX4_findRow) (Y := mX4_begin) (d2 := d - 1) (As := [.int x1, .int x2, .int x3]) (st := []) dX4_findRow_40 mlRX4_63 cv_X4_begin zk_276 (ct_Rw_begin (dle (Nat.le_of_ble_eq_true rfl) hd0) he2) (dps (Nat.le_of_ble_eq_true rfl) hd0) rfl rfl (Nat.le_of_ble_eq_true rfl) ?_
      refine z_aload_n dX4_findRow_43 0 rfl ?_
      refine z_iconst (M := mX4_findRow) (v := 0) dX4_findRow_44 rfl ?_
      obtain ⟨v3, he3, h⟩ := obind h
      refine y_Vi (M := mX4_findRow) (Y := mX4_walk) (d2 := d - 1) (As := [.int (0 : Int32)]) (st := []) dX4_findRow_45 mlRX4_67 cv_X4_walk zk_276 (ct_Rw_walk (dle (Nat.le_of_ble_eq_true rfl) hd0) he3) (dps (Nat.le_of_ble_eq_true rfl) hd0) rfl rfl (Nat.le_of_ble_eq_true rfl) ?_
      refine z_if_eq 68 dX4_findRow_48 rfl (fun hc4 => ?_) (fun hc4 => ?_)
      · replace h := oT hc4 h
        refine z_iinc (M := mX4_findRow) (v := (x3 + (1 : Int32))) (lv2 := [(3, .int (x3 + (1 : Int32))), (0, .ref 276), (1, .int x1), (2, .int x2)]) dX4_findRow_68 3 rfl rfl (Nat.le_of_ble_eq_true rfl) rfl ?_
        refine z_goto 31 dX4_findRow_71 rfl ?_
        refine z_lv (lv2 := [(0, .ref 276), (1, .int x1), (2, .int x2), (3, .int (x3 + (1 : Int32)))]) [1, 2, 3, 0] rfl ?_
        exact ih x1 x2 (x3 + (1 : Int32)) v3.2 _ h
      · replace h := oF hc4 h
        refine z_aload_n dX4_findRow_51 0 rfl ?_
        refine z_iload_n dX4_findRow_52 1 rfl ?_
        refine y_putI dX4_findRow_53 zk_276 flRX4_31 ⟨rfl, rfl⟩ ?_
        refine z_aload_n dX4_findRow_56 0 rfl ?_
        refine z_iload_n dX4_findRow_57 2 rfl ?_
        refine y_putI dX4_findRow_58 zk_276 flRX4_70 ⟨rfl, rfl⟩ ?_
        refine z_aload_n dX4_findRow_61 0 rfl ?_
        refine z_iload_n dX4_findRow_62 3 rfl ?_
        refine y_putI dX4_findRow_63 zk_276 flRX4_76 ⟨rfl, rfl⟩ ?_
        refine z_iconst (M := mX4_findRow) (v := 1) dX4_findRow_66 rfl ?_
        cases h
        exact z_zret dX4_findRow_67 rfl rfl
def Rw_findRow_18 (x1 : Int32) (x2 : Int32) (ν : Nm) : Option (Bool × Nm) :=
  (Rw_gives x1 x2 ν).bind fun v1 =>
  (if ¬ (b2i v1.1) = 0 then
    Rw_findRow_31 FU x1 x2 (1 : Int32) v1.2
  else
    some (false, v1.2))
set_option maxRecDepth 100000 in
set_option maxHeartbeats 4000000 in
theorem t_Rw_findRow_18 {g : GG} {d : Nat} (hd0 : 206 ≤ d) : ∀ (x1 : Int32) (x2 : Int32) (ν : Nm) (r : (Bool × Nm)), Rw_findRow_18 x1 x2 ν = some r → Z g d (0, 0) mX4_findRow 333 0 0 18 [(0, .ref 276), (1, .int x1), (2, .int x2)] [] (zem ν) (zF g (some (.int (b2i r.1)), zem r.2)) := by
  intro x1 x2 ν r h
  unfold Rw_findRow_18 at h
  refine z_aload_n dX4_findRow_18 0 rfl ?_
  refine z_iload_n dX4_findRow_19 1 rfl ?_
  refine z_iload_n dX4_findRow_20 2 rfl ?_
  obtain ⟨v1, he1, h⟩ := obind h
  refine y_Vi (M := mX4_findRow) (Y := mX4_gives) (d2 := d - 1) (As := [.int x1, .int x2]) (st := []) dX4_findRow_21 mlRX4_73 cv_X4_gives zk_276 (ct_Rw_gives (dle (Nat.le_of_ble_eq_true rfl) hd0) he1) (dps (Nat.le_of_ble_eq_true rfl) hd0) rfl rfl (Nat.le_of_ble_eq_true rfl) ?_
  refine z_if_ne 29 dX4_findRow_24 rfl (fun hc2 => ?_) (fun hc2 => ?_)
  · replace h := oT hc2 h
    refine z_iconst (M := mX4_findRow) (v := 1) dX4_findRow_29 rfl ?_
    refine z_istore_n (M := mX4_findRow) (lv2 := [(3, .int (1 : Int32)), (0, .ref 276), (1, .int x1), (2, .int x2)]) dX4_findRow_30 (Nat.le_of_ble_eq_true rfl) rfl ?_
    refine z_lv (lv2 := [(0, .ref 276), (1, .int x1), (2, .int x2), (3, .int (1 : Int32))]) [1, 2, 3, 0] rfl ?_
    exact t_Rw_findRow_31 hd0 FU x1 x2 (1 : Int32) v1.2 _ h
  · replace h := oFn hc2 h
    refine z_iconst (M := mX4_findRow) (v := 0) dX4_findRow_27 rfl ?_
    cases h
    exact z_zret dX4_findRow_28 rfl rfl
def Rw_findRow (x1 : Int32) (x2 : Int32) (ν : Nm) : Option (Bool × Nm) :=
  (if ¬ (gi ν 276 5) = x1 then
    Rw_findRow_18 x1 x2 ν
  else
    (if ¬ (gi ν 276 6) = x2 then
      Rw_findRow_18 x1 x2 ν
    else
      some (true, ν)))
set_option maxRecDepth 100000 in
set_option maxHeartbeats 4000000 in
theorem t_Rw_findRow {g : GG} {d : Nat} (hd0 : 206 ≤ d) : ∀ (x1 : Int32) (x2 : Int32) (ν : Nm) (r : (Bool × Nm)), Rw_findRow x1 x2 ν = some r → Z g d (0, 0) mX4_findRow 333 0 0 0 [(0, .ref 276), (1, .int x1), (2, .int x2)] [] (zem ν) (zF g (some (.int (b2i r.1)), zem r.2)) := by
  intro x1 x2 ν r h
  unfold Rw_findRow at h
  refine z_aload_n dX4_findRow_0 0 rfl ?_
  refine y_getI dX4_findRow_1 zk_276 flRX4_31 ?_
  refine z_iload_n dX4_findRow_4 1 rfl ?_
  refine z_icmp_ne 18 dX4_findRow_5 rfl (fun hc1 => ?_) (fun hc1 => ?_)
  · replace h := oT hc1 h
    exact t_Rw_findRow_18 hd0  x1 x2 ν _ h
  · replace h := oFn hc1 h
    refine z_aload_n dX4_findRow_8 0 rfl ?_
    refine y_getI dX4_findRow_9 zk_276 flRX4_70 ?_
    refine z_iload_n dX4_findRow_12 2 rfl ?_
    refine z_icmp_ne 18 dX4_findRow_13 rfl (fun hc2 => ?_) (fun hc2 => ?_)
    · replace h := oT hc2 h
      exact t_Rw_findRow_18 hd0  x1 x2 ν _ h
    · replace h := oFn hc2 h
      refine z_iconst (M := mX4_findRow) (v := 1) dX4_findRow_16 rfl ?_
      cases h
      exact z_zret dX4_findRow_17 rfl rfl
theorem ct_Rw_findRow {g : GG} {d : Nat} {x1 : Int32} {x2 : Int32} {ν : Nm} {r : (Bool × Nm)} (hd0 : 206 ≤ d)  (h : Rw_findRow x1 x2 ν = some r) : Ct g d mX4_findRow [.ref 276, .int x1, .int x2] (zem ν) (some (.int (b2i r.1)), zem r.2) := y_entry in_X4_findRow (Nat.le_of_ble_eq_true rfl) rfl (t_Rw_findRow hd0 x1 x2 ν r h)
-- FuseMinutes$Rows.litAt(I)I
theorem dX4_litAt_0 : decode cX4_litAt 0 = .ok (.iload_n 1, 1) := by decide +kernel
theorem dX4_litAt_1 : decode cX4_litAt 1 = .ok (.ifCond .lt 16, 3) := by decide +kernel
theorem dX4_litAt_4 : decode cX4_litAt 4 = .ok (.iload_n 1, 1) := by decide +kernel
theorem dX4_litAt_5 : decode cX4_litAt 5 = .ok (.aload_n 0, 1) := by decide +kernel
theorem dX4_litAt_6 : decode cX4_litAt 6 = .ok (.getfield 76, 3) := by decide +kernel
theorem dX4_litAt_9 : decode cX4_litAt 9 = .ok (.if_icmp .ge 8, 3) := by decide +kernel
theorem dX4_litAt_12 : decode cX4_litAt 12 = .ok (.iload_n 1, 1) := by decide +kernel
theorem dX4_litAt_13 : decode cX4_litAt 13 = .ok (.iconst 4, 1) := by decide +kernel
theorem dX4_litAt_14 : decode cX4_litAt 14 = .ok (.if_icmp .le 6, 3) := by decide +kernel
theorem dX4_litAt_17 : decode cX4_litAt 17 = .ok (.bipush (-2), 2) := by decide +kernel
theorem dX4_litAt_19 : decode cX4_litAt 19 = .ok (.ireturn, 1) := by decide +kernel
theorem dX4_litAt_20 : decode cX4_litAt 20 = .ok (.iconst 0, 1) := by decide +kernel
theorem dX4_litAt_21 : decode cX4_litAt 21 = .ok (.istore_n 2, 1) := by decide +kernel
theorem dX4_litAt_22 : decode cX4_litAt 22 = .ok (.iconst 0, 1) := by decide +kernel
theorem dX4_litAt_23 : decode cX4_litAt 23 = .ok (.istore_n 3, 1) := by decide +kernel
theorem dX4_litAt_24 : decode cX4_litAt 24 = .ok (.iload_n 3, 1) := by decide +kernel
theorem dX4_litAt_25 : decode cX4_litAt 25 = .ok (.iconst 4, 1) := by decide +kernel
theorem dX4_litAt_26 : decode cX4_litAt 26 = .ok (.if_icmp .ge 28, 3) := by decide +kernel
theorem dX4_litAt_29 : decode cX4_litAt 29 = .ok (.iload_n 2, 1) := by decide +kernel
theorem dX4_litAt_30 : decode cX4_litAt 30 = .ok (.aload_n 0, 1) := by decide +kernel
theorem dX4_litAt_31 : decode cX4_litAt 31 = .ok (.getfield 22, 3) := by decide +kernel
theorem dX4_litAt_34 : decode cX4_litAt 34 = .ok (.iload_n 1, 1) := by decide +kernel
theorem dX4_litAt_35 : decode cX4_litAt 35 = .ok (.iconst 4, 1) := by decide +kernel
theorem dX4_litAt_36 : decode cX4_litAt 36 = .ok (.imul, 1) := by decide +kernel
theorem dX4_litAt_37 : decode cX4_litAt 37 = .ok (.iload_n 3, 1) := by decide +kernel
theorem dX4_litAt_38 : decode cX4_litAt 38 = .ok (.iadd, 1) := by decide +kernel
theorem dX4_litAt_39 : decode cX4_litAt 39 = .ok (.iaload, 1) := by decide +kernel
theorem dX4_litAt_40 : decode cX4_litAt 40 = .ok (.getstatic 79, 3) := by decide +kernel
theorem dX4_litAt_43 : decode cX4_litAt 43 = .ok (.iload_n 3, 1) := by decide +kernel
theorem dX4_litAt_44 : decode cX4_litAt 44 = .ok (.iaload, 1) := by decide +kernel
theorem dX4_litAt_45 : decode cX4_litAt 45 = .ok (.imul, 1) := by decide +kernel
theorem dX4_litAt_46 : decode cX4_litAt 46 = .ok (.iadd, 1) := by decide +kernel
theorem dX4_litAt_47 : decode cX4_litAt 47 = .ok (.istore_n 2, 1) := by decide +kernel
theorem dX4_litAt_48 : decode cX4_litAt 48 = .ok (.iinc 3 1, 3) := by decide +kernel
theorem dX4_litAt_51 : decode cX4_litAt 51 = .ok (.goto (-27), 3) := by decide +kernel
theorem dX4_litAt_54 : decode cX4_litAt 54 = .ok (.iload_n 2, 1) := by decide +kernel
theorem dX4_litAt_55 : decode cX4_litAt 55 = .ok (.ireturn, 1) := by decide +kernel
def Rw_litAt_24 (ν : Nm) : Nat → Int32 → Int32 → Int32 → Option Int32
  | 0, _, _, _ => none
  | f + 1, x1, x2, x3 =>
    (if (4 : Int32) ≤ x3 then
      some x2
    else
      if inb ((x1 * (4 : Int32)) + x3) 20 then
      if inb x3 4 then
      (Rw_litAt_24 ν f) x1 (x2 + ((gi ν 280 ((x1 * (4 : Int32)) + x3).toNatClampNeg) * (zth x3.toNatClampNeg))) (x3 + (1 : Int32))
      else none
      else none)
set_option maxRecDepth 100000 in
set_option maxHeartbeats 4000000 in
theorem t_Rw_litAt_24 {g : GG} {d : Nat} {ν : Nm} (hd0 : 1 ≤ d) : ∀ (f : Nat), ∀ (x1 : Int32) (x2 : Int32) (x3 : Int32) (r : Int32), Rw_litAt_24 ν f x1 x2 x3 = some r → Z g d (0, 0) mX4_litAt 333 0 0 24 [(0, .ref 276), (1, .int x1), (2, .int x2), (3, .int x3)] [] (zem ν) (zF g (some (.int r), zem ν)) := by
  intro f
  induction f with
  | zero =>
    intro x1 x2 x3 r h
    cases h
  | succ f ih =>
    intro x1 x2 x3 r h
    rw [Rw_litAt_24] at h
    refine z_iload_n dX4_litAt_24 3 rfl ?_
    refine z_iconst (M := mX4_litAt) (v := 4) dX4_litAt_25 rfl ?_
    refine z_icmp_ge 54 dX4_litAt_26 rfl (fun hc1 => ?_) (fun hc1 => ?_)
    · replace h := oT hc1 h
      refine z_iload_n dX4_litAt_54 2 rfl ?_
      cases h
      exact z_iret dX4_litAt_55 rfl
    · replace h := oF hc1 h
      refine z_iload_n dX4_litAt_29 2 rfl ?_
      refine z_aload_n dX4_litAt_30 0 rfl ?_
      refine y_getR (M := mX4_litAt) (r := 280) dX4_litAt_31 zk_276 flRX4_22 fr_3_9.1 (fr_3_9.2 _) ?_
      refine z_iload_n dX4_litAt_34 1 rfl ?_
      refine z_iconst (M := mX4_litAt) (v := 4) dX4_litAt_35 rfl ?_
      refine z_imul dX4_litAt_36 ?_
      refine z_iload_n dX4_litAt_37 3 rfl ?_
      refine z_iadd dX4_litAt_38 ?_
      obtain ⟨hi2, h⟩ := oif h
      refine y_iald (M := mX4_litAt) (jj := ((x1 * (4 : Int32)) + x3).toNatClampNeg) dX4_litAt_39 zk_280 hi2 rfl ?_
      refine z_threes dX4_litAt_40 rfl ?_
      refine z_iload_n dX4_litAt_43 3 rfl ?_
      obtain ⟨hi3, h⟩ := oif h
      refine z_thald dX4_litAt_44 (inb_vp hi3) ?_
      refine z_imul dX4_litAt_45 ?_
      refine z_iadd dX4_litAt_46 ?_
      refine z_istore_n (M := mX4_litAt) (lv2 := [(2, .int (x2 + ((gi ν 280 ((x1 * (4 : Int32)) + x3).toNatClampNeg) * (zth x3.toNatClampNeg)))), (0, .ref 276), (1, .int x1), (3, .int x3)]) dX4_litAt_47 (Nat.le_of_ble_eq_true rfl) rfl ?_
      refine z_iinc (M := mX4_litAt) (v := (x3 + (1 : Int32))) (lv2 := [(3, .int (x3 + (1 : Int32))), (2, .int (x2 + ((gi ν 280 ((x1 * (4 : Int32)) + x3).toNatClampNeg) * (zth x3.toNatClampNeg)))), (0, .ref 276), (1, .int x1)]) dX4_litAt_48 3 rfl rfl (Nat.le_of_ble_eq_true rfl) rfl ?_
      refine z_goto 24 dX4_litAt_51 rfl ?_
      refine z_lv (lv2 := [(0, .ref 276), (1, .int x1), (2, .int (x2 + ((gi ν 280 ((x1 * (4 : Int32)) + x3).toNatClampNeg) * (zth x3.toNatClampNeg)))), (3, .int (x3 + (1 : Int32)))]) [2, 3, 1, 0] rfl ?_
      exact ih x1 (x2 + ((gi ν 280 ((x1 * (4 : Int32)) + x3).toNatClampNeg) * (zth x3.toNatClampNeg))) (x3 + (1 : Int32)) _ h
def Rw_litAt (ν : Nm) (x1 : Int32) : Option Int32 :=
  (if x1 < 0 then
    some (-2 : Int32)
  else
    (if (gi ν 276 2) ≤ x1 then
      some (-2 : Int32)
    else
      (if x1 ≤ (4 : Int32) then
        Rw_litAt_24 ν FU x1 (0 : Int32) (0 : Int32)
      else
        some (-2 : Int32))))
set_option maxRecDepth 100000 in
set_option maxHeartbeats 4000000 in
theorem t_Rw_litAt {g : GG} {d : Nat} {ν : Nm} (hd0 : 1 ≤ d) : ∀ (x1 : Int32) (r : Int32), Rw_litAt ν x1 = some r → Z g d (0, 0) mX4_litAt 333 0 0 0 [(0, .ref 276), (1, .int x1)] [] (zem ν) (zF g (some (.int r), zem ν)) := by
  intro x1 r h
  unfold Rw_litAt at h
  refine z_iload_n dX4_litAt_0 1 rfl ?_
  refine z_if_lt 17 dX4_litAt_1 rfl (fun hc1 => ?_) (fun hc1 => ?_)
  · replace h := oT hc1 h
    refine z_bipush (M := mX4_litAt) (v := -2) dX4_litAt_17 rfl ?_
    cases h
    exact z_iret dX4_litAt_19 rfl
  · replace h := oF hc1 h
    refine z_iload_n dX4_litAt_4 1 rfl ?_
    refine z_aload_n dX4_litAt_5 0 rfl ?_
    refine y_getI dX4_litAt_6 zk_276 flRX4_76 ?_
    refine z_icmp_ge 17 dX4_litAt_9 rfl (fun hc2 => ?_) (fun hc2 => ?_)
    · replace h := oT hc2 h
      refine z_bipush (M := mX4_litAt) (v := -2) dX4_litAt_17 rfl ?_
      cases h
      exact z_iret dX4_litAt_19 rfl
    · replace h := oF hc2 h
      refine z_iload_n dX4_litAt_12 1 rfl ?_
      refine z_iconst (M := mX4_litAt) (v := 4) dX4_litAt_13 rfl ?_
      refine z_icmp_le 20 dX4_litAt_14 rfl (fun hc3 => ?_) (fun hc3 => ?_)
      · replace h := oT hc3 h
        refine z_iconst (M := mX4_litAt) (v := 0) dX4_litAt_20 rfl ?_
        refine z_istore_n (M := mX4_litAt) (lv2 := [(2, .int (0 : Int32)), (0, .ref 276), (1, .int x1)]) dX4_litAt_21 (Nat.le_of_ble_eq_true rfl) rfl ?_
        refine z_iconst (M := mX4_litAt) (v := 0) dX4_litAt_22 rfl ?_
        refine z_istore_n (M := mX4_litAt) (lv2 := [(3, .int (0 : Int32)), (2, .int (0 : Int32)), (0, .ref 276), (1, .int x1)]) dX4_litAt_23 (Nat.le_of_ble_eq_true rfl) rfl ?_
        refine z_lv (lv2 := [(0, .ref 276), (1, .int x1), (2, .int (0 : Int32)), (3, .int (0 : Int32))]) [2, 3, 1, 0] rfl ?_
        exact t_Rw_litAt_24 hd0 FU x1 (0 : Int32) (0 : Int32) _ h
      · replace h := oF hc3 h
        refine z_bipush (M := mX4_litAt) (v := -2) dX4_litAt_17 rfl ?_
        cases h
        exact z_iret dX4_litAt_19 rfl
theorem ct_Rw_litAt {g : GG} {d : Nat} {x1 : Int32} {ν : Nm} {r : Int32} (hd0 : 1 ≤ d)  (h : Rw_litAt ν x1 = some r) : Ct g d mX4_litAt [.ref 276, .int x1] (zem ν) (some (.int r), zem ν) := y_entry in_X4_litAt (Nat.le_of_ble_eq_true rfl) rfl (t_Rw_litAt hd0 x1 r h)

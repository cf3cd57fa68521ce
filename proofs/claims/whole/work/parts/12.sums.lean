-- FuseMinutes$Bundles.begin(I)V
theorem dX0_begin_0 : decode cX0_begin 0 = .ok (.aload_n 0, 1) := by decide +kernel
theorem dX0_begin_1 : decode cX0_begin 1 = .ok (.iload_n 1, 1) := by decide +kernel
theorem dX0_begin_2 : decode cX0_begin 2 = .ok (.iconst 4, 1) := by decide +kernel
theorem dX0_begin_3 : decode cX0_begin 3 = .ok (.invokestatic 18, 3) := by decide +kernel
theorem dX0_begin_6 : decode cX0_begin 6 = .ok (.putfield 24, 3) := by decide +kernel
theorem dX0_begin_9 : decode cX0_begin 9 = .ok (.aload_n 0, 1) := by decide +kernel
theorem dX0_begin_10 : decode cX0_begin 10 = .ok (.ldc2_w 28, 3) := by decide +kernel
theorem dX0_begin_13 : decode cX0_begin 13 = .ok (.putfield 30, 3) := by decide +kernel
theorem dX0_begin_16 : decode cX0_begin 16 = .ok (.return_, 1) := by decide +kernel
def Bu_begin (x1 : Int32) (ν : Nm) : Option Nm :=
  some (sl (si ν 282 2 (imin x1 (4 : Int32))) 282 3 (-1 : Int64))
set_option maxRecDepth 100000 in
set_option maxHeartbeats 4000000 in
theorem t_Bu_begin {g : GG} {d : Nat} (hd0 : 1 ≤ d) : ∀ (x1 : Int32) (ν : Nm) (r : Nm), Bu_begin x1 ν = some r → Z g d (0, 0) mX0_begin 333 0 0 0 [(0, .ref 282), (1, .int x1)] [] (zem ν) (zF g (none, zem r)) := by
  intro x1 ν r h
  unfold Bu_begin at h
  refine z_aload_n dX0_begin_0 0 rfl ?_
  refine z_iload_n dX0_begin_1 1 rfl ?_
  refine z_iconst (M := mX0_begin) (v := 4) dX0_begin_2 rfl ?_
  refine y_mmin dX0_begin_3 mlRX0_18 mw_mmin (Nat.le_trans (Nat.le_of_ble_eq_true rfl) hd0) (Nat.le_of_ble_eq_true rfl) ?_
  refine y_putI dX0_begin_6 zk_282 flRX0_24 ⟨rfl, rfl⟩ ?_
  refine z_aload_n dX0_begin_9 0 rfl ?_
  refine z_ldc2 dX0_begin_10 csRX0_28 ?_
  refine y_putL dX0_begin_13 zk_282 flRX0_30 ⟨rfl, rfl⟩ ?_
  cases h
  exact z_vret dX0_begin_16 rfl
theorem ct_Bu_begin {g : GG} {d : Nat} {x1 : Int32} {ν : Nm} {r : Nm} (hd0 : 1 ≤ d)  (h : Bu_begin x1 ν = some r) : Ct g d mX0_begin [.ref 282, .int x1] (zem ν) (none, zem r) := y_entry in_X0_begin (Nat.le_of_ble_eq_true rfl) rfl (t_Bu_begin hd0 x1 ν r h)
-- FuseMinutes$Bundles.givesAll()Z
theorem dX0_givesAll_0 : decode cX0_givesAll 0 = .ok (.iconst 0, 1) := by decide +kernel
theorem dX0_givesAll_1 : decode cX0_givesAll 1 = .ok (.istore_n 1, 1) := by decide +kernel
theorem dX0_givesAll_2 : decode cX0_givesAll 2 = .ok (.iload_n 1, 1) := by decide +kernel
theorem dX0_givesAll_3 : decode cX0_givesAll 3 = .ok (.aload_n 0, 1) := by decide +kernel
theorem dX0_givesAll_4 : decode cX0_givesAll 4 = .ok (.getfield 24, 3) := by decide +kernel
theorem dX0_givesAll_7 : decode cX0_givesAll 7 = .ok (.if_icmp .ge 29, 3) := by decide +kernel
theorem dX0_givesAll_10 : decode cX0_givesAll 10 = .ok (.aload_n 0, 1) := by decide +kernel
theorem dX0_givesAll_11 : decode cX0_givesAll 11 = .ok (.getfield 9, 3) := by decide +kernel
theorem dX0_givesAll_14 : decode cX0_givesAll 14 = .ok (.iload_n 1, 1) := by decide +kernel
theorem dX0_givesAll_15 : decode cX0_givesAll 15 = .ok (.iaload, 1) := by decide +kernel
theorem dX0_givesAll_16 : decode cX0_givesAll 16 = .ok (.aload_n 0, 1) := by decide +kernel
theorem dX0_givesAll_17 : decode cX0_givesAll 17 = .ok (.getfield 15, 3) := by decide +kernel
theorem dX0_givesAll_20 : decode cX0_givesAll 20 = .ok (.iload_n 1, 1) := by decide +kernel
theorem dX0_givesAll_21 : decode cX0_givesAll 21 = .ok (.iaload, 1) := by decide +kernel
theorem dX0_givesAll_22 : decode cX0_givesAll 22 = .ok (.ishr, 1) := by decide +kernel
theorem dX0_givesAll_23 : decode cX0_givesAll 23 = .ok (.iconst 1, 1) := by decide +kernel
theorem dX0_givesAll_24 : decode cX0_givesAll 24 = .ok (.iand, 1) := by decide +kernel
theorem dX0_givesAll_25 : decode cX0_givesAll 25 = .ok (.ifCond .ne 5, 3) := by decide +kernel
theorem dX0_givesAll_28 : decode cX0_givesAll 28 = .ok (.iconst 0, 1) := by decide +kernel
theorem dX0_givesAll_29 : decode cX0_givesAll 29 = .ok (.ireturn, 1) := by decide +kernel
theorem dX0_givesAll_30 : decode cX0_givesAll 30 = .ok (.iinc 1 1, 3) := by decide +kernel
theorem dX0_givesAll_33 : decode cX0_givesAll 33 = .ok (.goto (-31), 3) := by decide +kernel
theorem dX0_givesAll_36 : decode cX0_givesAll 36 = .ok (.iconst 1, 1) := by decide +kernel
theorem dX0_givesAll_37 : decode cX0_givesAll 37 = .ok (.ireturn, 1) := by decide +kernel
def Bu_givesAll_2 (ν : Nm) : Nat → Int32 → Option Bool
  | 0, _ => none
  | f + 1, x1 =>
    (if (gi ν 282 2) ≤ x1 then
      some true
    else
      if inb x1 4 then
      if inb x1 4 then
      (if ¬ (((gi ν 283 x1.toNatClampNeg) >>> ((gi ν 284 x1.toNatClampNeg) &&& 31)) &&& (1 : Int32)) = 0 then
        (Bu_givesAll_2 ν f) (x1 + (1 : Int32))
      else
        some false)
      else none
      else none)
set_option maxRecDepth 100000 in
set_option maxHeartbeats 4000000 in
theorem t_Bu_givesAll_2 {g : GG} {d : Nat} {ν : Nm} (hd0 : 1 ≤ d) : ∀ (f : Nat), ∀ (x1 : Int32) (r : Bool), Bu_givesAll_2 ν f x1 = some r → Z g d (0, 0) mX0_givesAll 333 0 0 2 [(0, .ref 282), (1, .int x1)] [] (zem ν) (zF g (some (.int (b2i r)), zem ν)) := by
  intro f
  induction f with
  | zero =>
    intro x1 r h
    cases h
  | succ f ih =>
    intro x1 r h
    rw [Bu_givesAll_2] at h
    refine z_iload_n dX0_givesAll_2 1 rfl ?_
    refine z_aload_n dX0_givesAll_3 0 rfl ?_
    refine y_getI dX0_givesAll_4 zk_282 flRX0_24 ?_
    refine z_icmp_ge 36 dX0_givesAll_7 rfl (fun hc1 => ?_) (fun hc1 => ?_)
    · replace h := oT hc1 h
      refine z_iconst (M := mX0_givesAll) (v := 1) dX0_givesAll_36 rfl ?_
      cases h
      exact z_zret dX0_givesAll_37 rfl rfl
    · replace h := oF hc1 h
      refine z_aload_n dX0_givesAll_10 0 rfl ?_
      refine y_getR (M := mX0_givesAll) (r := 283) dX0_givesAll_11 zk_282 flRX0_9 fr_0_0.1 (fr_0_0.2 _) ?_
      refine z_iload_n dX0_givesAll_14 1 rfl ?_
      obtain ⟨hi2, h⟩ := oif h
      refine y_iald (M := mX0_givesAll) (jj := x1.toNatClampNeg) dX0_givesAll_15 zk_283 hi2 rfl ?_
      refine z_aload_n dX0_givesAll_16 0 rfl ?_
      refine y_getR (M := mX0_givesAll) (r := 284) dX0_givesAll_17 zk_282 flRX0_15 fr_0_1.1 (fr_0_1.2 _) ?_
      refine z_iload_n dX0_givesAll_20 1 rfl ?_
      obtain ⟨hi3, h⟩ := oif h
      refine y_iald (M := mX0_givesAll) (jj := x1.toNatClampNeg) dX0_givesAll_21 zk_284 hi3 rfl ?_
      refine z_ishr dX0_givesAll_22 ?_
      refine z_iconst (M := mX0_givesAll) (v := 1) dX0_givesAll_23 rfl ?_
      refine z_iand dX0_givesAll_24 ?_
      refine z_if_ne 30 dX0_givesAll_25 rfl (fun hc4 => ?_) (fun hc4 => ?_)
      · replace h := oT hc4 h
        refine z_iinc (M := mX0_givesAll) (v := (x1 + (1 : Int32))) (lv2 := [(1, .int (x1 + (1 : Int32))), (0, .ref 282)]) dX0_givesAll_30 1 rfl rfl (Nat.le_of_ble_eq_true rfl) rfl ?_
        refine z_goto 2 dX0_givesAll_33 rfl ?_
        refine z_lv (lv2 := [(0, .ref 282), (1, .int (x1 + (1 : Int32)))]) [1, 0] rfl ?_
        exact ih (x1 + (1 : Int32)) _ h
      · replace h := oFn hc4 h
        refine z_iconst (M := mX0_givesAll) (v := 0) dX0_givesAll_28 rfl ?_
        cases h
        exact z_zret dX0_givesAll_29 rfl rfl
def Bu_givesAll (ν : Nm) : Option Bool :=
  Bu_givesAll_2 ν FU (0 : Int32)
set_option maxRecDepth 100000 in
set_option maxHeartbeats 4000000 in
theorem t_Bu_givesAll {g : GG} {d : Nat} {ν : Nm} (hd0 : 1 ≤ d) : ∀ (r : Bool), Bu_givesAll ν = some r → Z g d (0, 0) mX0_givesAll 333 0 0 0 [(0, .ref 282)] [] (zem ν) (zF g (some (.int (b2i r)), zem ν)) := by
  intro r h
  unfold Bu_givesAll at h
  refine z_iconst (M := mX0_givesAll) (v := 0) dX0_givesAll_0 rfl ?_
  refine z_istore_n (M := mX0_givesAll) (lv2 := [(1, .int (0 : Int32)), (0, .ref 282)]) dX0_givesAll_1 (Nat.le_of_ble_eq_true rfl) rfl ?_
  refine z_lv (lv2 := [(0, .ref 282), (1, .int (0 : Int32))]) [1, 0] rfl ?_
  exact t_Bu_givesAll_2 hd0 FU (0 : Int32) _ h
theorem ct_Bu_givesAll {g : GG} {d : Nat} {ν : Nm} {r : Bool} (hd0 : 1 ≤ d)  (h : Bu_givesAll ν = some r) : Ct g d mX0_givesAll [.ref 282] (zem ν) (some (.int (b2i r)), zem ν) := y_entry in_X0_givesAll (Nat.le_of_ble_eq_true rfl) rfl (t_Bu_givesAll hd0 r h)
-- FuseMinutes$Bundles.rank(LFuseMinutes$Store;)J
theorem dX0_rank_0 : decode cX0_rank 0 = .ok (.aload_n 0, 1) := by decide +kernel
theorem dX0_rank_1 : decode cX0_rank 1 = .ok (.getfield 15, 3) := by decide +kernel
theorem dX0_rank_4 : decode cX0_rank 4 = .ok (.iconst 0, 1) := by decide +kernel
theorem dX0_rank_5 : decode cX0_rank 5 = .ok (.iaload, 1) := by decide +kernel
theorem dX0_rank_6 : decode cX0_rank 6 = .ok (.aload_n 0, 1) := by decide +kernel
theorem dX0_rank_7 : decode cX0_rank 7 = .ok (.getfield 15, 3) := by decide +kernel
theorem dX0_rank_10 : decode cX0_rank 10 = .ok (.iconst 1, 1) := by decide +kernel
theorem dX0_rank_11 : decode cX0_rank 11 = .ok (.iaload, 1) := by decide +kernel
theorem dX0_rank_12 : decode cX0_rank 12 = .ok (.ior, 1) := by decide +kernel
theorem dX0_rank_13 : decode cX0_rank 13 = .ok (.aload_n 0, 1) := by decide +kernel
theorem dX0_rank_14 : decode cX0_rank 14 = .ok (.getfield 15, 3) := by decide +kernel
theorem dX0_rank_17 : decode cX0_rank 17 = .ok (.iconst 2, 1) := by decide +kernel
theorem dX0_rank_18 : decode cX0_rank 18 = .ok (.iaload, 1) := by decide +kernel
theorem dX0_rank_19 : decode cX0_rank 19 = .ok (.ior, 1) := by decide +kernel
theorem dX0_rank_20 : decode cX0_rank 20 = .ok (.aload_n 0, 1) := by decide +kernel
theorem dX0_rank_21 : decode cX0_rank 21 = .ok (.getfield 15, 3) := by decide +kernel
theorem dX0_rank_24 : decode cX0_rank 24 = .ok (.iconst 3, 1) := by decide +kernel
theorem dX0_rank_25 : decode cX0_rank 25 = .ok (.iaload, 1) := by decide +kernel
theorem dX0_rank_26 : decode cX0_rank 26 = .ok (.ior, 1) := by decide +kernel
theorem dX0_rank_27 : decode cX0_rank 27 = .ok (.istore_n 2, 1) := by decide +kernel
theorem dX0_rank_28 : decode cX0_rank 28 = .ok (.aload_n 1, 1) := by decide +kernel
theorem dX0_rank_29 : decode cX0_rank 29 = .ok (.iload_n 2, 1) := by decide +kernel
theorem dX0_rank_30 : decode cX0_rank 30 = .ok (.invokevirtual 49, 3) := by decide +kernel
theorem dX0_rank_33 : decode cX0_rank 33 = .ok (.iconst 5, 1) := by decide +kernel
theorem dX0_rank_34 : decode cX0_rank 34 = .ok (.imul, 1) := by decide +kernel
theorem dX0_rank_35 : decode cX0_rank 35 = .ok (.iload_n 2, 1) := by decide +kernel
theorem dX0_rank_36 : decode cX0_rank 36 = .ok (.invokestatic 55, 3) := by decide +kernel
theorem dX0_rank_39 : decode cX0_rank 39 = .ok (.iadd, 1) := by decide +kernel
theorem dX0_rank_40 : decode cX0_rank 40 = .ok (.i2l, 1) := by decide +kernel
theorem dX0_rank_41 : decode cX0_rank 41 = .ok (.lstore_n 3, 1) := by decide +kernel
theorem dX0_rank_42 : decode cX0_rank 42 = .ok (.lload_n 3, 1) := by decide +kernel
theorem dX0_rank_43 : decode cX0_rank 43 = .ok (.ldc2_w 60, 3) := by decide +kernel
theorem dX0_rank_46 : decode cX0_rank 46 = .ok (.lmul, 1) := by decide +kernel
theorem dX0_rank_47 : decode cX0_rank 47 = .ok (.iload_n 2, 1) := by decide +kernel
theorem dX0_rank_48 : decode cX0_rank 48 = .ok (.i2l, 1) := by decide +kernel
theorem dX0_rank_49 : decode cX0_rank 49 = .ok (.ladd, 1) := by decide +kernel
theorem dX0_rank_50 : decode cX0_rank 50 = .ok (.lstore_n 3, 1) := by decide +kernel
theorem dX0_rank_51 : decode cX0_rank 51 = .ok (.iconst 0, 1) := by decide +kernel
theorem dX0_rank_52 : decode cX0_rank 52 = .ok (.istore 5, 2) := by decide +kernel
theorem dX0_rank_54 : decode cX0_rank 54 = .ok (.iload 5, 2) := by decide +kernel
theorem dX0_rank_56 : decode cX0_rank 56 = .ok (.iconst 4, 1) := by decide +kernel
theorem dX0_rank_57 : decode cX0_rank 57 = .ok (.if_icmp .ge 24, 3) := by decide +kernel
theorem dX0_rank_60 : decode cX0_rank 60 = .ok (.lload_n 3, 1) := by decide +kernel
theorem dX0_rank_61 : decode cX0_rank 61 = .ok (.ldc2_w 60, 3) := by decide +kernel
theorem dX0_rank_64 : decode cX0_rank 64 = .ok (.lmul, 1) := by decide +kernel
theorem dX0_rank_65 : decode cX0_rank 65 = .ok (.aload_n 0, 1) := by decide +kernel
theorem dX0_rank_66 : decode cX0_rank 66 = .ok (.getfield 15, 3) := by decide +kernel
theorem dX0_rank_69 : decode cX0_rank 69 = .ok (.iload 5, 2) := by decide +kernel
theorem dX0_rank_71 : decode cX0_rank 71 = .ok (.iaload, 1) := by decide +kernel
theorem dX0_rank_72 : decode cX0_rank 72 = .ok (.i2l, 1) := by decide +kernel
theorem dX0_rank_73 : decode cX0_rank 73 = .ok (.ladd, 1) := by decide +kernel
theorem dX0_rank_74 : decode cX0_rank 74 = .ok (.lstore_n 3, 1) := by decide +kernel
theorem dX0_rank_75 : decode cX0_rank 75 = .ok (.iinc 5 1, 3) := by decide +kernel
theorem dX0_rank_78 : decode cX0_rank 78 = .ok (.goto (-24), 3) := by decide +kernel
theorem dX0_rank_81 : decode cX0_rank 81 = .ok (.lload_n 3, 1) := by decide +kernel
theorem dX0_rank_82 : decode cX0_rank 82 = .ok (.lreturn, 1) := by decide +kernel
def Bu_rank_54 (ν : Nm) : Nat → Int64 → Int32 → Option Int64
  | 0, _, _ => none
  | f + 1, x3, x5 =>
    (if (4 : Int32) ≤ x5 then
      some x3
    else
      if inb x5 4 then
      (Bu_rank_54 ν f) ((x3 * (16 : Int64)) + (gi ν 284 x5.toNatClampNeg).toInt64) (x5 + (1 : Int32))
      else none)
set_option maxRecDepth 100000 in
set_option maxHeartbeats 4000000 in
theorem t_Bu_rank_54 {g : GG} {d : Nat} {ν : Nm} (hd0 : 2 ≤ d) : ∀ (f : Nat), ∀ (x3 : Int64) (x5 : Int32) (r : Int64), Bu_rank_54 ν f x3 x5 = some r → Z g d (0, 0) mX0_rank 333 0 0 54 [(0, .ref 282), (3, .long x3), (5, .int x5)] [] (zem ν) (zF g (some (.long r), zem ν)) := by
  intro f
  induction f with
  | zero =>
    intro x3 x5 r h
    cases h
  | succ f ih =>
    intro x3 x5 r h
    rw [Bu_rank_54] at h
    refine z_iload dX0_rank_54 2 rfl ?_
    refine z_iconst (M := mX0_rank) (v := 4) dX0_rank_56 rfl ?_
    refine z_icmp_ge 81 dX0_rank_57 rfl (fun hc1 => ?_) (fun hc1 => ?_)
    · replace h := oT hc1 h
      refine z_lload_n dX0_rank_81 1 rfl ?_
      cases h
      exact z_lret dX0_rank_82 rfl
    · replace h := oF hc1 h
      refine z_lload_n dX0_rank_60 1 rfl ?_
      refine z_ldc2 dX0_rank_61 csRX0_60 ?_
      refine z_lmul dX0_rank_64 ?_
      refine z_aload_n dX0_rank_65 0 rfl ?_
      refine y_getR (M := mX0_rank) (r := 284) dX0_rank_66 zk_282 flRX0_15 fr_0_1.1 (fr_0_1.2 _) ?_
      refine z_iload dX0_rank_69 2 rfl ?_
      obtain ⟨hi2, h⟩ := oif h
      refine y_iald (M := mX0_rank) (jj := x5.toNatClampNeg) dX0_rank_71 zk_284 hi2 rfl ?_
      refine z_i2l dX0_rank_72 ?_
      refine z_ladd dX0_rank_73 ?_
      refine z_lstore_n (M := mX0_rank) (lv2 := [(3, .long ((x3 * (16 : Int64)) + (gi ν 284 x5.toNatClampNeg).toInt64)), (0, .ref 282), (5, .int x5)]) dX0_rank_74 (Nat.le_of_ble_eq_true rfl) rfl ?_
      refine z_iinc (M := mX0_rank) (v := (x5 + (1 : Int32))) (lv2 := [(5, .int (x5 + (1 : Int32))), (3, .long ((x3 * (16 : Int64)) + (gi ν 284 x5.toNatClampNeg).toInt64)), (0, .ref 282)]) dX0_rank_75 2 rfl rfl (Nat.le_of_ble_eq_true rfl) rfl ?_
      refine z_goto 54 dX0_rank_78 rfl ?_
      refine z_lv (lv2 := [(0, .ref 282), (3, .long ((x3 * (16 : Int64)) + (gi ν 284 x5.toNatClampNeg).toInt64)), (5, .int (x5 + (1 : Int32)))]) [2, 1, 0] rfl ?_
      exact ih ((x3 * (16 : Int64)) + (gi ν 284 x5.toNatClampNeg).toInt64) (x5 + (1 : Int32)) _ h
def Bu_rank (ν : Nm) (x1 : Nat) : Option Int64 :=
  (So_priceOf ν x1 ((((gi ν 284 0) ||| (gi ν 284 1)) ||| (gi ν 284 2)) ||| (gi ν 284 3))).bind fun v1 =>
  (In_bitCount ((((gi ν 284 0) ||| (gi ν 284 1)) ||| (gi ν 284 2)) ||| (gi ν 284 3))).bind fun v2 =>
  Bu_rank_54 ν FU ((((v1 * (5 : Int32)) + v2).toInt64 * (16 : Int64)) + ((((gi ν 284 0) ||| (gi ν 284 1)) ||| (gi ν 284 2)) ||| (gi ν 284 3)).toInt64) (0 : Int32)
set_option maxRecDepth 100000 in
set_option maxHeartbeats 4000000 in
theorem t_Bu_rank {g : GG} {d : Nat} {ν : Nm} (hd0 : 2 ≤ d) : ∀ (x1 : Nat) (r : Int64), zk 333 x1 (5, 0) → Bu_rank ν x1 = some r → Z g d (0, 0) mX0_rank 333 0 0 0 [(0, .ref 282), (1, .ref x1)] [] (zem ν) (zF g (some (.long r), zem ν)) := by
  intro x1 r hq1 h
  unfold Bu_rank at h
  refine z_aload_n dX0_rank_0 0 rfl ?_
  refine y_getR (M := mX0_rank) (r := 284) dX0_rank_1 zk_282 flRX0_15 fr_0_1.1 (fr_0_1.2 _) ?_
  refine z_iconst (M := mX0_rank) (v := 0) dX0_rank_4 rfl ?_
  refine y_iald (M := mX0_rank) (jj := 0) dX0_rank_5 zk_284 rfl rfl ?_
  refine z_aload_n dX0_rank_6 0 rfl ?_
  refine y_getR (M := mX0_rank) (r := 284) dX0_rank_7 zk_282 flRX0_15 fr_0_1.1 (fr_0_1.2 _) ?_
  refine z_iconst (M := mX0_rank) (v := 1) dX0_rank_10 rfl ?_
  refine y_iald (M := mX0_rank) (jj := 1) dX0_rank_11 zk_284 rfl rfl ?_
  refine z_ior dX0_rank_12 ?_
  refine z_aload_n dX0_rank_13 0 rfl ?_
  refine y_getR (M := mX0_rank) (r := 284) dX0_rank_14 zk_282 flRX0_15 fr_0_1.1 (fr_0_1.2 _) ?_
  refine z_iconst (M := mX0_rank) (v := 2) dX0_rank_17 rfl ?_
  refine y_iald (M := mX0_rank) (jj := 2) dX0_rank_18 zk_284 rfl rfl ?_
  refine z_ior dX0_rank_19 ?_
  refine z_aload_n dX0_rank_20 0 rfl ?_
  refine y_getR (M := mX0_rank) (r := 284) dX0_rank_21 zk_282 flRX0_15 fr_0_1.1 (fr_0_1.2 _) ?_
  refine z_iconst (M := mX0_rank) (v := 3) dX0_rank_24 rfl ?_
  refine y_iald (M := mX0_rank) (jj := 3) dX0_rank_25 zk_284 rfl rfl ?_
  refine z_ior dX0_rank_26 ?_
  refine z_istore_n (M := mX0_rank) (lv2 := [(2, .int ((((gi ν 284 0) ||| (gi ν 284 1)) ||| (gi ν 284 2)) ||| (gi ν 284 3))), (0, .ref 282), (1, .ref x1)]) dX0_rank_27 (Nat.le_of_ble_eq_true rfl) rfl ?_
  refine z_aload_n dX0_rank_28 2 rfl ?_
  refine z_iload_n dX0_rank_29 0 rfl ?_
  obtain ⟨v1, he1, h⟩ := obind h
  refine y_Vi (M := mX0_rank) (Y := mX6_priceOf) (d2 := d - 1) (As := [.int ((((gi ν 284 0) ||| (gi ν 284 1)) ||| (gi ν 284 2)) ||| (gi ν 284 3))]) (st := []) dX0_rank_30 mlRX0_49 cv_X6_priceOf hq1 (ct_So_priceOf (dle (Nat.le_of_ble_eq_true rfl) hd0) hq1 he1) (dps (Nat.le_of_ble_eq_true rfl) hd0) rfl rfl (Nat.le_of_ble_eq_true rfl) ?_
  refine z_iconst (M := mX0_rank) (v := 5) dX0_rank_33 rfl ?_
  refine z_imul dX0_rank_34 ?_
  refine z_iload_n dX0_rank_35 0 rfl ?_
  obtain ⟨v2, he2, h⟩ := obind h
  refine y_Si (M := mX0_rank) (Y := mJ6_bitCount_0f7a4) (d2 := d - 1) (As := [.int ((((gi ν 284 0) ||| (gi ν 284 1)) ||| (gi ν 284 2)) ||| (gi ν 284 3))]) (st := [.int (v1 * (5 : Int32))]) dX0_rank_36 mlRX0_55 cv_J6_bitCount_0f7a4 (ct_In_bitCount (dle (Nat.le_of_ble_eq_true rfl) hd0) he2) (dps (Nat.le_of_ble_eq_true rfl) hd0) rfl rfl (Nat.le_of_ble_eq_true rfl) ?_
  refine z_iadd dX0_rank_39 ?_
  refine z_i2l dX0_rank_40 ?_
  refine z_lstore_n (M := mX0_rank) (lv2 := [(3, .long ((v1 * (5 : Int32)) + v2).toInt64), (2, .int ((((gi ν 284 0) ||| (gi ν 284 1)) ||| (gi ν 284 2)) ||| (gi ν 284 3))), (0, .ref 282), (1, .ref x1)]) dX0_rank_41 (Nat.le_of_ble_eq_true rfl) rfl ?_
  refine z_lload_n dX0_rank_42 0 rfl ?_
  refine z_ldc2 dX0_rank_43 csRX0_60 ?_
  refine z_lmul dX0_rank_46 ?_
  refine z_iload_n dX0_rank_47 1 rfl ?_
  refine z_i2l dX0_rank_48 ?_
  refine z_ladd dX0_rank_49 ?_
  refine z_lstore_n (M := mX0_rank) (lv2 := [(3, .long ((((v1 * (5 : Int32)) + v2).toInt64 * (16 : Int64)) + ((((gi ν 284 0) ||| (gi ν 284 1)) ||| (gi ν 284 2)) ||| (gi ν 284 3)).toInt64)), (2, .int ((((gi ν 284 0) ||| (gi ν 284 1)) ||| (gi ν 284 2)) ||| (gi ν 284 3))), (0, .ref 282), (1, .ref x1)]) dX0_rank_50 (Nat.le_of_ble_eq_true rfl) rfl ?_
  refine z_iconst (M := mX0_rank) (v := 0) dX0_rank_51 rfl ?_
  refine z_istore (M := mX0_rank) (lv2 := [(5, .int (0 : Int32)), (3, .long ((((v1 * (5 : Int32)) + v2).toInt64 * (16 : Int64)) + ((((gi ν 284 0) ||| (gi ν 284 1)) ||| (gi ν 284 2)) ||| (gi ν 284 3)).toInt64)), (2, .int ((((gi ν 284 0) ||| (gi ν 284 1)) ||| (gi ν 284 2)) ||| (gi ν 284 3))), (0, .ref 282), (1, .ref x1)]) dX0_rank_52 (Nat.le_of_ble_eq_true rfl) rfl ?_
  refine z_lv (lv2 := [(0, .ref 282), (3, .long ((((v1 * (5 : Int32)) + v2).toInt64 * (16 : Int64)) + ((((gi ν 284 0) ||| (gi ν 284 1)) ||| (gi ν 284 2)) ||| (gi ν 284 3)).toInt64)), (5, .int (0 : Int32))]) [3, 1, 0] rfl ?_
  exact t_Bu_rank_54 hd0 FU ((((v1 * (5 : Int32)) + v2).toInt64 * (16 : Int64)) + ((((gi ν 284 0) ||| (gi ν 284 1)) ||| (gi ν 284 2)) ||| (gi ν 284 3)).toInt64) (0 : Int32) _ h
theorem ct_Bu_rank {g : GG} {d : Nat} {x1 : Nat} {ν : Nm} {r : Int64} (hd0 : 2 ≤ d) (hq1 : zk 333 x1 (5, 0)) (h : Bu_rank ν x1 = some r) : Ct g d mX0_rank [.ref 282, .ref x1] (zem ν) (some (.long r), zem ν) := y_entry in_X0_rank (Nat.le_of_ble_eq_true rfl) rfl (t_Bu_rank hd0 x1 r hq1 h)
-- FuseMinutes$Bundles.shareOut(I)V
theorem dX0_shareOut_0 : decode cX0_shareOut 0 = .ok (.iconst 0, 1) := by decide +kernel
theorem dX0_shareOut_1 : decode cX0_shareOut 1 = .ok (.istore_n 2, 1) := by decide +kernel
theorem dX0_shareOut_2 : decode cX0_shareOut 2 = .ok (.iload_n 2, 1) := by decide +kernel
theorem dX0_shareOut_3 : decode cX0_shareOut 3 = .ok (.iconst 4, 1) := by decide +kernel
theorem dX0_shareOut_4 : decode cX0_shareOut 4 = .ok (.if_icmp .ge 16, 3) := by decide +kernel
theorem dX0_shareOut_7 : decode cX0_shareOut 7 = .ok (.aload_n 0, 1) := by decide +kernel
theorem dX0_shareOut_8 : decode cX0_shareOut 8 = .ok (.getfield 15, 3) := by decide +kernel
theorem dX0_shareOut_11 : decode cX0_shareOut 11 = .ok (.iload_n 2, 1) := by decide +kernel
theorem dX0_shareOut_12 : decode cX0_shareOut 12 = .ok (.iconst 0, 1) := by decide +kernel
theorem dX0_shareOut_13 : decode cX0_shareOut 13 = .ok (.iastore, 1) := by decide +kernel
theorem dX0_shareOut_14 : decode cX0_shareOut 14 = .ok (.iinc 2 1, 3) := by decide +kernel
theorem dX0_shareOut_17 : decode cX0_shareOut 17 = .ok (.goto (-15), 3) := by decide +kernel
theorem dX0_shareOut_20 : decode cX0_shareOut 20 = .ok (.iload_n 1, 1) := by decide +kernel
theorem dX0_shareOut_21 : decode cX0_shareOut 21 = .ok (.istore_n 2, 1) := by decide +kernel
theorem dX0_shareOut_22 : decode cX0_shareOut 22 = .ok (.iconst 0, 1) := by decide +kernel
theorem dX0_shareOut_23 : decode cX0_shareOut 23 = .ok (.istore_n 3, 1) := by decide +kernel
theorem dX0_shareOut_24 : decode cX0_shareOut 24 = .ok (.iload_n 3, 1) := by decide +kernel
theorem dX0_shareOut_25 : decode cX0_shareOut 25 = .ok (.iconst 4, 1) := by decide +kernel
theorem dX0_shareOut_26 : decode cX0_shareOut 26 = .ok (.if_icmp .ge 48, 3) := by decide +kernel
theorem dX0_shareOut_29 : decode cX0_shareOut 29 = .ok (.iload_n 2, 1) := by decide +kernel
theorem dX0_shareOut_30 : decode cX0_shareOut 30 = .ok (.aload_n 0, 1) := by decide +kernel
theorem dX0_shareOut_31 : decode cX0_shareOut 31 = .ok (.getfield 24, 3) := by decide +kernel
theorem dX0_shareOut_34 : decode cX0_shareOut 34 = .ok (.iconst 1, 1) := by decide +kernel
theorem dX0_shareOut_35 : decode cX0_shareOut 35 = .ok (.iadd, 1) := by decide +kernel
theorem dX0_shareOut_36 : decode cX0_shareOut 36 = .ok (.irem, 1) := by decide +kernel
theorem dX0_shareOut_37 : decode cX0_shareOut 37 = .ok (.istore 4, 2) := by decide +kernel
theorem dX0_shareOut_39 : decode cX0_shareOut 39 = .ok (.iload_n 2, 1) := by decide +kernel
theorem dX0_shareOut_40 : decode cX0_shareOut 40 = .ok (.aload_n 0, 1) := by decide +kernel
theorem dX0_shareOut_41 : decode cX0_shareOut 41 = .ok (.getfield 24, 3) := by decide +kernel
theorem dX0_shareOut_44 : decode cX0_shareOut 44 = .ok (.iconst 1, 1) := by decide +kernel
theorem dX0_shareOut_45 : decode cX0_shareOut 45 = .ok (.iadd, 1) := by decide +kernel
theorem dX0_shareOut_46 : decode cX0_shareOut 46 = .ok (.idiv, 1) := by decide +kernel
theorem dX0_shareOut_47 : decode cX0_shareOut 47 = .ok (.istore_n 2, 1) := by decide +kernel
theorem dX0_shareOut_48 : decode cX0_shareOut 48 = .ok (.iload 4, 2) := by decide +kernel
theorem dX0_shareOut_50 : decode cX0_shareOut 50 = .ok (.ifCond .le 18, 3) := by decide +kernel
theorem dX0_shareOut_53 : decode cX0_shareOut 53 = .ok (.aload_n 0, 1) := by decide +kernel
theorem dX0_shareOut_54 : decode cX0_shareOut 54 = .ok (.getfield 15, 3) := by decide +kernel
theorem dX0_shareOut_57 : decode cX0_shareOut 57 = .ok (.iload 4, 2) := by decide +kernel
theorem dX0_shareOut_59 : decode cX0_shareOut 59 = .ok (.iconst 1, 1) := by decide +kernel
theorem dX0_shareOut_60 : decode cX0_shareOut 60 = .ok (.isub, 1) := by decide +kernel
theorem dX0_shareOut_61 : decode cX0_shareOut 61 = .ok (.dup2, 1) := by decide +kernel
theorem dX0_shareOut_62 : decode cX0_shareOut 62 = .ok (.iaload, 1) := by decide +kernel
theorem dX0_shareOut_63 : decode cX0_shareOut 63 = .ok (.iconst 1, 1) := by decide +kernel
theorem dX0_shareOut_64 : decode cX0_shareOut 64 = .ok (.iload_n 3, 1) := by decide +kernel
theorem dX0_shareOut_65 : decode cX0_shareOut 65 = .ok (.ishl, 1) := by decide +kernel
theorem dX0_shareOut_66 : decode cX0_shareOut 66 = .ok (.ior, 1) := by decide +kernel
theorem dX0_shareOut_67 : decode cX0_shareOut 67 = .ok (.iastore, 1) := by decide +kernel
theorem dX0_shareOut_68 : decode cX0_shareOut 68 = .ok (.iinc 3 1, 3) := by decide +kernel
theorem dX0_shareOut_71 : decode cX0_shareOut 71 = .ok (.goto (-47), 3) := by decide +kernel
theorem dX0_shareOut_74 : decode cX0_shareOut 74 = .ok (.return_, 1) := by decide +kernel
def Bu_shareOut_68 (k24 : Int32 → Int32 → Nm → Option Nm) (x2 : Int32) (x3 : Int32) (ν : Nm) : Option Nm :=
  k24 x2 (x3 + (1 : Int32)) ν
set_option maxRecDepth 100000 in
set_option maxHeartbeats 4000000 in
theorem t_Bu_shareOut_68 {g : GG} {d : Nat} (hd0 : 1 ≤ d) {k24 : Int32 → Int32 → Nm → Option Nm} (hk24 : ∀ (x2 : Int32) (x3 : Int32) (ν : Nm) (r : Nm), k24 x2 x3 ν = some r → Z g d (0, 0) mX0_shareOut 333 0 0 24 [(0, .ref 282), (2, .int x2), (3, .int x3)] [] (zem ν) (zF g (none, zem r))) : ∀ (x2 : Int32) (x3 : Int32) (ν : Nm) (r : Nm), Bu_shareOut_68 k24 x2 x3 ν = some r → Z g d (0, 0) mX0_shareOut 333 0 0 68 [(0, .ref 282), (2, .int x2), (3, .int x3)] [] (zem ν) (zF g (none, zem r)) := by
  intro x2 x3 ν r h
  unfold Bu_shareOut_68 at h
  refine z_iinc (M := mX0_shareOut) (v := (x3 + (1 : Int32))) (lv2 := [(3, .int (x3 + (1 : Int32))), (0, .ref 282), (2, .int x2)]) dX0_shareOut_68 2 rfl rfl (Nat.le_of_ble_eq_true rfl) rfl ?_
  refine z_goto 24 dX0_shareOut_71 rfl ?_
  refine z_lv (lv2 := [(0, .ref 282), (2, .int x2), (3, .int (x3 + (1 : Int32)))]) [1, 2, 0] rfl ?_
  exact hk24 x2 (x3 + (1 : Int32)) ν _ h
def Bu_shareOut_24 : Nat → Int32 → Int32 → Nm → Option Nm
  | 0, _, _, _ => none
  | f + 1, x2, x3, ν =>
    (if (4 : Int32) ≤ x3 then
      some ν
    else
      if ((gi ν 282 2) + (1 : Int32)) = 0 then none else
      if ((gi ν 282 2) + (1 : Int32)) = 0 then none else
      (if (x2 - x2 / ((gi ν 282 2) + (1 : Int32)) * ((gi ν 282 2) + (1 : Int32))) ≤ 0 then
        Bu_shareOut_68 (Bu_shareOut_24 f) (x2 / ((gi ν 282 2) + (1 : Int32))) x3 ν
      else
        if inb ((x2 - x2 / ((gi ν 282 2) + (1 : Int32)) * ((gi ν 282 2) + (1 : Int32))) - (1 : Int32)) 4 then
        if inb ((x2 - x2 / ((gi ν 282 2) + (1 : Int32)) * ((gi ν 282 2) + (1 : Int32))) - (1 : Int32)) 4 then
        Bu_shareOut_68 (Bu_shareOut_24 f) (x2 / ((gi ν 282 2) + (1 : Int32))) x3 (si ν 284 ((x2 - x2 / ((gi ν 282 2) + (1 : Int32)) * ((gi ν 282 2) + (1 : Int32))) - (1 : Int32)).toNatClampNeg ((gi ν 284 ((x2 - x2 / ((gi ν 282 2) + (1 : Int32)) * ((gi ν 282 2) + (1 : Int32))) - (1 : Int32)).toNatClampNeg) ||| ((1 : Int32) <<< (x3 &&& 31))))
        else none
        else none))
set_option maxRecDepth 100000 in
set_option maxHeartbeats 4000000 in
theorem t_Bu_shareOut_24 {g : GG} {d : Nat} (hd0 : 1 ≤ d) : ∀ (f : Nat), ∀ (x2 : Int32) (x3 : Int32) (ν : Nm) (r : Nm), Bu_shareOut_24 f x2 x3 ν = some r → Z g d (0, 0) mX0_shareOut 333 0 0 24 [(0, .ref 282), (2, .int x2), (3, .int x3)] [] (zem ν) (zF g (none, zem r)) := by
  intro f
  induction f with
  | zero =>
    intro x2 x3 ν r h
    cases h
  | succ f ih =>
    intro x2 x3 ν r h
    rw [Bu_shareOut_24] at h
    refine z_iload_n dX0_shareOut_24 2 rfl ?_
    refine z_iconst (M := mX0_shareOut) (v := 4) dX0_shareOut_25 rfl ?_
    refine z_icmp_ge 74 dX0_shareOut_26 rfl (fun hc1 => ?_) (fun hc1 => ?_)
    · replace h := oT hc1 h
      cases h
      exact z_vret dX0_shareOut_74 rfl
    · replace h := oF hc1 h
      refine z_iload_n dX0_shareOut_29 1 rfl ?_
      refine z_aload_n dX0_shareOut_30 0 rfl ?_
      refine y_getI dX0_shareOut_31 zk_282 flRX0_24 ?_
      refine z_iconst (M := mX0_shareOut) (v := 1) dX0_shareOut_34 rfl ?_
      refine z_iadd dX0_shareOut_35 ?_
      obtain ⟨hz2, h⟩ := oifn h
      refine z_irem dX0_shareOut_36 hz2 ?_
      refine z_istore (M := mX0_shareOut) (lv2 := [(4, .int (x2 - x2 / ((gi ν 282 2) + (1 : Int32)) * ((gi ν 282 2) + (1 : Int32)))), (0, .ref 282), (2, .int x2), (3, .int x3)]) dX0_shareOut_37 (Nat.le_of_ble_eq_true rfl) rfl ?_
      refine z_iload_n dX0_shareOut_39 2 rfl ?_
      refine z_aload_n dX0_shareOut_40 1 rfl ?_
      refine y_getI dX0_shareOut_41 zk_282 flRX0_24 ?_
      refine z_iconst (M := mX0_shareOut) (v := 1) dX0_shareOut_44 rfl ?_
      refine z_iadd dX0_shareOut_45 ?_
      obtain ⟨hz3, h⟩ := oifn h
      refine z_idiv dX0_shareOut_46 hz3 ?_
      refine z_istore_n (M := mX0_shareOut) (lv2 := [(2, .int (x2 / ((gi ν 282 2) + (1 : Int32)))), (4, .int (x2 - x2 / ((gi ν 282 2) + (1 : Int32)) * ((gi ν 282 2) + (1 : Int32)))), (0, .ref 282), (3, .int x3)]) dX0_shareOut_47 (Nat.le_of_ble_eq_true rfl) rfl ?_
      refine z_iload dX0_shareOut_48 1 rfl ?_
      refine z_if_le 68 dX0_shareOut_50 rfl (fun hc4 => ?_) (fun hc4 => ?_)
      · replace h := oT hc4 h
        refine z_lv (lv2 := [(0, .ref 282), (2, .int (x2 / ((gi ν 282 2) + (1 : Int32)))), (3, .int x3)]) [2, 0, 3] rfl ?_
        exact t_Bu_shareOut_68 hd0 ih (x2 / ((gi ν 282 2) + (1 : Int32))) x3 ν _ h
      · replace h := oF hc4 h
        refine z_aload_n dX0_shareOut_53 2 rfl ?_
        refine y_getR (M := mX0_shareOut) (r := 284) dX0_shareOut_54 zk_282 flRX0_15 fr_0_1.1 (fr_0_1.2 _) ?_
        refine z_iload dX0_shareOut_57 1 rfl ?_
        refine z_iconst (M := mX0_shareOut) (v := 1) dX0_shareOut_59 rfl ?_
        refine z_isub dX0_shareOut_60 ?_
        refine z_dup2 dX0_shareOut_61 rfl rfl ?_
        obtain ⟨hi5, h⟩ := oif h
        refine y_iald (M := mX0_shareOut) (jj := ((x2 - x2 / ((gi ν 282 2) + (1 : Int32)) * ((gi ν 282 2) + (1 : Int32))) - (1 : Int32)).toNatClampNeg) dX0_shareOut_62 zk_284 hi5 rfl ?_
        refine z_iconst (M := mX0_shareOut) (v := 1) dX0_shareOut_63 rfl ?_
        refine z_iload_n dX0_shareOut_64 3 rfl ?_
        refine z_ishl dX0_shareOut_65 ?_
        refine z_ior dX0_shareOut_66 ?_
        obtain ⟨hi6, h⟩ := oif h
        refine y_iast (M := mX0_shareOut) (jj := ((x2 - x2 / ((gi ν 282 2) + (1 : Int32)) * ((gi ν 282 2) + (1 : Int32))) - (1 : Int32)).toNatClampNeg) dX0_shareOut_67 zk_284 hi6 rfl ?_
        refine z_lv (lv2 := [(0, .ref 282), (2, .int (x2 / ((gi ν 282 2) + (1 : Int32)))), (3, .int x3)]) [2, 0, 3] rfl ?_
        exact t_Bu_shareOut_68 hd0 ih (x2 / ((gi ν 282 2) + (1 : Int32))) x3 (si ν 284 ((x2 - x2 / ((gi ν 282 2) + (1 : Int32)) * ((gi ν 282 2) + (1 : Int32))) - (1 : Int32)).toNatClampNeg ((gi ν 284 ((x2 - x2 / ((gi ν 282 2) + (1 : Int32)) * ((gi ν 282 2) + (1 : Int32))) - (1 : Int32)).toNatClampNeg) ||| ((1 : Int32) <<< (x3 &&& 31)))) _ h
def Bu_shareOut_2 : Nat → Int32 → Int32 → Nm → Option Nm
  | 0, _, _, _ => none
  | f + 1, x1, x2, ν =>
    (if (4 : Int32) ≤ x2 then
      Bu_shareOut_24 FU x1 (0 : Int32) ν
    else
      if inb x2 4 then
      (Bu_shareOut_2 f) x1 (x2 + (1 : Int32)) (si ν 284 x2.toNatClampNeg (0 : Int32))
      else none)
set_option maxRecDepth 100000 in
set_option maxHeartbeats 4000000 in
theorem t_Bu_shareOut_2 {g : GG} {d : Nat} (hd0 : 1 ≤ d) : ∀ (f : Nat), ∀ (x1 : Int32) (x2 : Int32) (ν : Nm) (r : Nm), Bu_shareOut_2 f x1 x2 ν = some r → Z g d (0, 0) mX0_shareOut 333 0 0 2 [(0, .ref 282), (1, .int x1), (2, .int x2)] [] (zem ν) (zF g (none, zem r)) := by
  intro f
  induction f with
  | zero =>
    intro x1 x2 ν r h
    cases h
  | succ f ih =>
    intro x1 x2 ν r h
    rw [Bu_shareOut_2] at h
    refine z_iload_n dX0_shareOut_2 2 rfl ?_
    refine z_iconst (M := mX0_shareOut) (v := 4) dX0_shareOut_3 rfl ?_
    refine z_icmp_ge 20 dX0_shareOut_4 rfl (fun hc1 => ?_) (fun hc1 => ?_)
    · replace h := oT hc1 h
      refine z_iload_n dX0_shareOut_20 1 rfl ?_
      refine z_istore_n (M := mX0_shareOut) (lv2 := [(2, .int x1), (0, .ref 282), (1, .int x1)]) dX0_shareOut_21 (Nat.le_of_ble_eq_true rfl) rfl ?_
      refine z_iconst (M := mX0_shareOut) (v := 0) dX0_shareOut_22 rfl ?_
      refine z_istore_n (M := mX0_shareOut) (lv2 := [(3, .int (0 : Int32)), (2, .int x1), (0, .ref 282), (1, .int x1)]) dX0_shareOut_23 (Nat.le_of_ble_eq_true rfl) rfl ?_
      refine z_lv (lv2 := [(0, .ref 282), (2, .int x1), (3, .int (0 : Int32))]) [2, 1, 0] rfl ?_
      exact t_Bu_shareOut_24 hd0 FU x1 (0 : Int32) ν _ h
    · replace h := oF hc1 h
      refine z_aload_n dX0_shareOut_7 0 rfl ?_
      refine y_getR (M := mX0_shareOut) (r := 284) dX0_shareOut_8 zk_282 flRX0_15 fr_0_1.1 (fr_0_1.2 _) ?_
      refine z_iload_n dX0_shareOut_11 2 rfl ?_
      refine z_iconst (M := mX0_shareOut) (v := 0) dX0_shareOut_12 rfl ?_
      obtain ⟨hi2, h⟩ := oif h
      refine y_iast (M := mX0_shareOut) (jj := x2.toNatClampNeg) dX0_shareOut_13 zk_284 hi2 rfl ?_
      refine z_iinc (M := mX0_shareOut) (v := (x2 + (1 : Int32))) (lv2 := [(2, .int (x2 + (1 : Int32))), (0, .ref 282), (1, .int x1)]) dX0_shareOut_14 2 rfl rfl (Nat.le_of_ble_eq_true rfl) rfl ?_
      refine z_goto 2 dX0_shareOut_17 rfl ?_
      refine z_lv (lv2 := [(0, .ref 282), (1, .int x1), (2, .int (x2 + (1 : Int32)))]) [1, 2, 0] rfl ?_
      exact ih x1 (x2 + (1 : Int32)) (si ν 284 x2.toNatClampNeg (0 : Int32)) _ h
def Bu_shareOut (x1 : Int32) (ν : Nm) : Option Nm :=
  Bu_shareOut_2 FU x1 (0 : Int32) ν
set_option maxRecDepth 100000 in
set_option maxHeartbeats 4000000 in
theorem t_Bu_shareOut {g : GG} {d : Nat} (hd0 : 1 ≤ d) : ∀ (x1 : Int32) (ν : Nm) (r : Nm), Bu_shareOut x1 ν = some r → Z g d (0, 0) mX0_shareOut 333 0 0 0 [(0, .ref 282), (1, .int x1)] [] (zem ν) (zF g (none, zem r)) := by
  intro x1 ν r h
  unfold Bu_shareOut at h
  refine z_iconst (M := mX0_shareOut) (v := 0) dX0_shareOut_0 rfl ?_
  refine z_istore_n (M := mX0_shareOut) (lv2 := [(2, .int (0 : Int32)), (0, .ref 282), (1, .int x1)]) dX0_shareOut_1 (Nat.le_of_ble_eq_true rfl) rfl ?_
  refine z_lv (lv2 := [(0, .ref 282), (1, .int x1), (2, .int (0 : Int32))]) [1, 2, 0] rfl ?_
  exact t_Bu_shareOut_2 hd0 FU x1 (0 : Int32) ν _ h
theorem ct_Bu_shareOut {g : GG} {d : Nat} {x1 : Int32} {ν : Nm} {r : Nm} (hd0 : 1 ≤ d)  (h : Bu_shareOut x1 ν = some r) : Ct g d mX0_shareOut [.ref 282, .int x1] (zem ν) (none, zem r) := y_entry in_X0_shareOut (Nat.le_of_ble_eq_true rfl) rfl (t_Bu_shareOut hd0 x1 ν r h)
-- FuseMinutes$Bundles.find(LFuseMinutes$Store;I)Z
theorem dX0_find_0 : decode cX0_find 0 = .ok (.iconst 1, 1) := by decide +kernel
theorem dX0_find_1 : decode cX0_find 1 = .ok (.istore_n 3, 1) := by decide +kernel
theorem dX0_find_2 : decode cX0_find 2 = .ok (.iconst 0, 1) := by decide +kernel
theorem dX0_find_3 : decode cX0_find 3 = .ok (.istore 4, 2) := by decide +kernel
theorem dX0_find_5 : decode cX0_find 5 = .ok (.iload 4, 2) := by decide +kernel
theorem dX0_find_7 : decode cX0_find 7 = .ok (.iload_n 2, 1) := by decide +kernel
theorem dX0_find_8 : decode cX0_find 8 = .ok (.if_icmp .ge 24, 3) := by decide +kernel
theorem dX0_find_11 : decode cX0_find 11 = .ok (.iload 4, 2) := by decide +kernel
theorem dX0_find_13 : decode cX0_find 13 = .ok (.iconst 4, 1) := by decide +kernel
theorem dX0_find_14 : decode cX0_find 14 = .ok (.if_icmp .ge 18, 3) := by decide +kernel
theorem dX0_find_17 : decode cX0_find 17 = .ok (.iload_n 3, 1) := by decide +kernel
theorem dX0_find_18 : decode cX0_find 18 = .ok (.aload_n 0, 1) := by decide +kernel
theorem dX0_find_19 : decode cX0_find 19 = .ok (.getfield 24, 3) := by decide +kernel
theorem dX0_find_22 : decode cX0_find 22 = .ok (.iconst 1, 1) := by decide +kernel
theorem dX0_find_23 : decode cX0_find 23 = .ok (.iadd, 1) := by decide +kernel
theorem dX0_find_24 : decode cX0_find 24 = .ok (.imul, 1) := by decide +kernel
theorem dX0_find_25 : decode cX0_find 25 = .ok (.istore_n 3, 1) := by decide +kernel
theorem dX0_find_26 : decode cX0_find 26 = .ok (.iinc 4 1, 3) := by decide +kernel
theorem dX0_find_29 : decode cX0_find 29 = .ok (.goto (-24), 3) := by decide +kernel
theorem dX0_find_32 : decode cX0_find 32 = .ok (.iconst 0, 1) := by decide +kernel
theorem dX0_find_33 : decode cX0_find 33 = .ok (.istore 4, 2) := by decide +kernel
theorem dX0_find_35 : decode cX0_find 35 = .ok (.iload 4, 2) := by decide +kernel
theorem dX0_find_37 : decode cX0_find 37 = .ok (.iload_n 3, 1) := by decide +kernel
theorem dX0_find_38 : decode cX0_find 38 = .ok (.if_icmp .ge 58, 3) := by decide +kernel
theorem dX0_find_41 : decode cX0_find 41 = .ok (.aload_n 0, 1) := by decide +kernel
theorem dX0_find_42 : decode cX0_find 42 = .ok (.iload 4, 2) := by decide +kernel
theorem dX0_find_44 : decode cX0_find 44 = .ok (.invokevirtual 34, 3) := by decide +kernel
theorem dX0_find_47 : decode cX0_find 47 = .ok (.aload_n 0, 1) := by decide +kernel
theorem dX0_find_48 : decode cX0_find 48 = .ok (.invokevirtual 38, 3) := by decide +kernel
theorem dX0_find_51 : decode cX0_find 51 = .ok (.ifCond .eq 39, 3) := by decide +kernel
theorem dX0_find_54 : decode cX0_find 54 = .ok (.aload_n 0, 1) := by decide +kernel
theorem dX0_find_55 : decode cX0_find 55 = .ok (.aload_n 1, 1) := by decide +kernel
theorem dX0_find_56 : decode cX0_find 56 = .ok (.invokevirtual 42, 3) := by decide +kernel
theorem dX0_find_59 : decode cX0_find 59 = .ok (.lstore 5, 2) := by decide +kernel
theorem dX0_find_61 : decode cX0_find 61 = .ok (.aload_n 0, 1) := by decide +kernel
theorem dX0_find_62 : decode cX0_find 62 = .ok (.aload_n 0, 1) := by decide +kernel
theorem dX0_find_63 : decode cX0_find 63 = .ok (.getfield 30, 3) := by decide +kernel
theorem dX0_find_66 : decode cX0_find 66 = .ok (.ldc2_w 28, 3) := by decide +kernel
theorem dX0_find_69 : decode cX0_find 69 = .ok (.lcmp, 1) := by decide +kernel
theorem dX0_find_70 : decode cX0_find 70 = .ok (.ifCond .ne 8, 3) := by decide +kernel
theorem dX0_find_73 : decode cX0_find 73 = .ok (.lload 5, 2) := by decide +kernel
theorem dX0_find_75 : decode cX0_find 75 = .ok (.goto 12, 3) := by decide +kernel
theorem dX0_find_78 : decode cX0_find 78 = .ok (.aload_n 0, 1) := by decide +kernel
theorem dX0_find_79 : decode cX0_find 79 = .ok (.getfield 30, 3) := by decide +kernel
theorem dX0_find_82 : decode cX0_find 82 = .ok (.lload 5, 2) := by decide +kernel
theorem dX0_find_84 : decode cX0_find 84 = .ok (.invokestatic 46, 3) := by decide +kernel
theorem dX0_find_87 : decode cX0_find 87 = .ok (.putfield 30, 3) := by decide +kernel
theorem dX0_find_90 : decode cX0_find 90 = .ok (.iinc 4 1, 3) := by decide +kernel
theorem dX0_find_93 : decode cX0_find 93 = .ok (.goto (-58), 3) := by decide +kernel
theorem dX0_find_96 : decode cX0_find 96 = .ok (.aload_n 0, 1) := by decide +kernel
theorem dX0_find_97 : decode cX0_find 97 = .ok (.getfield 30, 3) := by decide +kernel
theorem dX0_find_100 : decode cX0_find 100 = .ok (.ldc2_w 28, 3) := by decide +kernel
theorem dX0_find_103 : decode cX0_find 103 = .ok (.lcmp, 1) := by decide +kernel
theorem dX0_find_104 : decode cX0_find 104 = .ok (.ifCond .eq 7, 3) := by decide +kernel
theorem dX0_find_107 : decode cX0_find 107 = .ok (.iconst 1, 1) := by decide +kernel
theorem dX0_find_108 : decode cX0_find 108 = .ok (.goto 4, 3) := by decide +kernel
theorem dX0_find_111 : decode cX0_find 111 = .ok (.iconst 0, 1) := by decide +kernel
theorem dX0_find_112 : decode cX0_find 112 = .ok (.ireturn, 1) := by decide +kernel
def Bu_find_90 (k35 : Nat → Int32 → Int32 → Nm → Option (Bool × Nm)) (x1 : Nat) (x3 : Int32) (x4 : Int32) (ν : Nm) : Option (Bool × Nm) :=
  k35 x1 x3 (x4 + (1 : Int32)) ν
set_option maxRecDepth 100000 in
set_option maxHeartbeats 4000000 in
theorem t_Bu_find_90 {g : GG} {d : Nat} (hd0 : 3 ≤ d) {k35 : Nat → Int32 → Int32 → Nm → Option (Bool × Nm)} (hk35 : ∀ (x1 : Nat) (x3 : Int32) (x4 : Int32) (ν : Nm) (r : (Bool × Nm)), zk 333 x1 (5, 0) → k35 x1 x3 x4 ν = some r → Z g d (0, 0) mX0_find 333 0 0 35 [(0, .ref 282), (1, .ref x1), (3, .int x3), (4, .int x4)] [] (zem ν) (zF g (some (.int (b2i r.1)), zem r.2))) : ∀ (x1 : Nat) (x3 : Int32) (x4 : Int32) (ν : Nm) (r : (Bool × Nm)), zk 333 x1 (5, 0) → Bu_find_90 k35 x1 x3 x4 ν = some r → Z g d (0, 0) mX0_find 333 0 0 90 [(0, .ref 282), (1, .ref x1), (3, .int x3), (4, .int x4)] [] (zem ν) (zF g (some (.int (b2i r.1)), zem r.2)) := by
  intro x1 x3 x4 ν r hq1 h
  unfold Bu_find_90 at h
  refine z_iinc (M := mX0_find) (v := (x4 + (1 : Int32))) (lv2 := [(4, .int (x4 + (1 : Int32))), (0, .ref 282), (1, .ref x1), (3, .int x3)]) dX0_find_90 3 rfl rfl (Nat.le_of_ble_eq_true rfl) rfl ?_
  refine z_goto 35 dX0_find_93 rfl ?_
  refine z_lv (lv2 := [(0, .ref 282), (1, .ref x1), (3, .int x3), (4, .int (x4 + (1 : Int32)))]) [1, 2, 3, 0] rfl ?_
  exact hk35 x1 x3 (x4 + (1 : Int32)) ν _ hq1 h
def Bu_find_87 (k35 : Nat → Int32 → Int32 → Nm → Option (Bool × Nm)) (x1 : Nat) (x3 : Int32) (x4 : Int32) (s0 : Int64) (ν : Nm) : Option (Bool × Nm) :=
  Bu_find_90 k35 x1 x3 x4 (sl ν 282 3 s0)
set_option maxRecDepth 100000 in
set_option maxHeartbeats 4000000 in
theorem t_Bu_find_87 {g : GG} {d : Nat} (hd0 : 3 ≤ d) {k35 : Nat → Int32 → Int32 → Nm → Option (Bool × Nm)} (hk35 : ∀ (x1 : Nat) (x3 : Int32) (x4 : Int32) (ν : Nm) (r : (Bool × Nm)), zk 333 x1 (5, 0) → k35 x1 x3 x4 ν = some r → Z g d (0, 0) mX0_find 333 0 0 35 [(0, .ref 282), (1, .ref x1), (3, .int x3), (4, .int x4)] [] (zem ν) (zF g (some (.int (b2i r.1)), zem r.2))) : ∀ (x1 : Nat) (x3 : Int32) (x4 : Int32) (s0 : Int64) (ν : Nm) (r : (Bool × Nm)), zk 333 x1 (5, 0) → Bu_find_87 k35 x1 x3 x4 s0 ν = some r → Z g d (0, 0) mX0_find 333 0 0 87 [(0, .ref 282), (1, .ref x1), (3, .int x3), (4, .int x4)] [.long s0, .ref 282] (zem ν) (zF g (some (.int (b2i r.1)), zem r.2)) := by
  intro x1 x3 x4 s0 ν r hq1 h
  unfold Bu_find_87 at h
  refine y_putL dX0_find_87 zk_282 flRX0_30 ⟨rfl, rfl⟩ ?_
  exact t_Bu_find_90 hd0 hk35 x1 x3 x4 (sl ν 282 3 s0) _ hq1 h
def Bu_find_35 : Nat → Nat → Int32 → Int32 → Nm → Option (Bool × Nm)
  | 0, _, _, _, _ => none
  | f + 1, x1, x3, x4, ν =>
    (if x3 ≤ x4 then
      (if (lg_cmp (gl ν 282 3) (-1 : Int64)) = 0 then
        some (false, ν)
      else
        some (true, ν))
    else
      (Bu_shareOut x4 ν).bind fun v3 =>
      (Bu_givesAll v3).bind fun v4 =>
      (if (b2i v4) = 0 then
        Bu_find_90 (Bu_find_35 f) x1 x3 x4 v3
      else
        (Bu_rank v3 x1).bind fun v6 =>
        (if ¬ (lg_cmp (gl v3 282 3) (-1 : Int64)) = 0 then
          Bu_find_87 (Bu_find_35 f) x1 x3 x4 (lmin (gl v3 282 3) v6) v3
        else
          Bu_find_87 (Bu_find_35 f) x1 x3 x4 v6 v3)))
set_option maxRecDepth 100000 in
set_option maxHeartbeats 4000000 in
theorem t_Bu_find_35 {g : GG} {d : Nat} (hd0 : 3 ≤ d) : ∀ (f : Nat), ∀ (x1 : Nat) (x3 : Int32) (x4 : Int32) (ν : Nm) (r : (Bool × Nm)), zk 333 x1 (5, 0) → Bu_find_35 f x1 x3 x4 ν = some r → Z g d (0, 0) mX0_find 333 0 0 35 [(0, .ref 282), (1, .ref x1), (3, .int x3), (4, .int x4)] [] (zem ν) (zF g (some (.int (b2i r.1)), zem r.2)) := by
  intro f
  induction f with
  | zero =>
    intro x1 x3 x4 ν r hq1 h
    cases h
  | succ f ih =>
    intro x1 x3 x4 ν r hq1 h
    rw [Bu_find_35] at h
    refine z_iload dX0_find_35 3 rfl ?_
    refine z_iload_n dX0_find_37 2 rfl ?_
    refine z_icmp_ge 96 dX0_find_38 rfl (fun hc1 => ?_) (fun hc1 => ?_)
    · replace h := oT hc1 h
      refine z_aload_n dX0_find_96 0 rfl ?_
      refine y_getL dX0_find_97 zk_282 flRX0_30 ?_
      refine z_ldc2 dX0_find_100 csRX0_28 ?_
      refine z_lcmp dX0_find_103 ?_
      refine z_if_eq 111 dX0_find_104 rfl (fun hc2 => ?_) (fun hc2 => ?_)
      · replace h := oT hc2 h
        refine z_iconst (M := mX0_find) (v := 0) dX0_find_111 rfl ?_
        cases h
        exact z_zret dX0_find_112 rfl rfl
      · replace h := oF hc2 h
        refine z_iconst (M := mX0_find) (v := 1) dX0_find_107 rfl ?_
        refine z_goto 112 dX0_find_108 rfl ?_
        cases h
        exact z_zret dX0_find_112 rfl rfl
    · replace h := oF hc1 h
      refine z_aload_n dX0_find_41 0 rfl ?_
      refine z_iload dX0_find_42 3 rfl ?_
      obtain ⟨v3, he3, h⟩ := obind h
      refine y_Vv (M := mX0_find) (Y := mX0_shareOut) (d2 := d - 1) (As := [.int x4]) (st := []) dX0_find_44 mlRX0_34 cv_X0_shareOut zk_282 (ct_Bu_shareOut (dle (Nat.le_of_ble_eq_true rfl) hd0) he3) (dps (Nat.le_of_ble_eq_true rfl) hd0) rfl rfl (Nat.le_of_ble_eq_true rfl) ?_
      refine z_aload_n dX0_find_47 0 rfl ?_
      obtain ⟨v4, he4, h⟩ := obind h
      refine y_Vi (M := mX0_find) (Y := mX0_givesAll) (d2 := d - 1) (As := []) (st := []) dX0_find_48 mlRX0_38 cv_X0_givesAll zk_282 (ct_Bu_givesAll (dle (Nat.le_of_ble_eq_true rfl) hd0) he4) (dps (Nat.le_of_ble_eq_true rfl) hd0) rfl rfl (Nat.le_of_ble_eq_true rfl) ?_
      refine z_if_eq 90 dX0_find_51 rfl (fun hc5 => ?_) (fun hc5 => ?_)
      · replace h := oT hc5 h
        exact t_Bu_find_90 hd0 ih x1 x3 x4 v3 _ hq1 h
      · replace h := oF hc5 h
        refine z_aload_n dX0_find_54 0 rfl ?_
        refine z_aload_n dX0_find_55 1 rfl ?_
        obtain ⟨v6, he6, h⟩ := obind h
        refine y_Vl (M := mX0_find) (Y := mX0_rank) (d2 := d - 1) (As := [.ref x1]) (st := []) dX0_find_56 mlRX0_42 cv_X0_rank zk_282 (ct_Bu_rank (dle (Nat.le_of_ble_eq_true rfl) hd0) hq1 he6) (dps (Nat.le_of_ble_eq_true rfl) hd0) rfl rfl (Nat.le_of_ble_eq_true rfl) ?_
        refine z_lstore (M := mX0_find) (lv2 := [(5, .long v6), (0, .ref 282), (1, .ref x1), (3, .int x3), (4, .int x4)]) dX0_find_59 (Nat.le_of_ble_eq_true rfl) rfl ?_
        refine z_aload_n dX0_find_61 1 rfl ?_
        refine z_aload_n dX0_find_62 1 rfl ?_
        refine y_getL dX0_find_63 zk_282 flRX0_30 ?_
        refine z_ldc2 dX0_find_66 csRX0_28 ?_
        refine z_lcmp dX0_find_69 ?_
        refine z_if_ne 78 dX0_find_70 rfl (fun hc7 => ?_) (fun hc7 => ?_)
        · replace h := oT hc7 h
          refine z_aload_n dX0_find_78 1 rfl ?_
          refine y_getL dX0_find_79 zk_282 flRX0_30 ?_
          refine z_lload dX0_find_82 0 rfl ?_
          refine y_lmin dX0_find_84 mlRX0_46 mw_lmin (Nat.le_trans (Nat.le_of_ble_eq_true rfl) hd0) (Nat.le_of_ble_eq_true rfl) ?_
          refine z_lv (lv2 := [(0, .ref 282), (1, .ref x1), (3, .int x3), (4, .int x4)]) [1, 2, 3, 4] rfl ?_
          exact t_Bu_find_87 hd0 ih x1 x3 x4 (lmin (gl v3 282 3) v6) v3 _ hq1 h
        · replace h := oFn hc7 h
          refine z_lload dX0_find_73 0 rfl ?_
          refine z_goto 87 dX0_find_75 rfl ?_
          refine z_lv (lv2 := [(0, .ref 282), (1, .ref x1), (3, .int x3), (4, .int x4)]) [1, 2, 3, 4] rfl ?_
          exact t_Bu_find_87 hd0 ih x1 x3 x4 v6 v3 _ hq1 h
def Bu_find_32 (x1 : Nat) (x3 : Int32) (ν : Nm) : Option (Bool × Nm) :=
  Bu_find_35 FU x1 x3 (0 : Int32) ν
set_option maxRecDepth 100000 in
set_option maxHeartbeats 4000000 in
theorem t_Bu_find_32 {g : GG} {d : Nat} (hd0 : 3 ≤ d) : ∀ (x1 : Nat) (x3 : Int32) (ν : Nm) (r : (Bool × Nm)), zk 333 x1 (5, 0) → Bu_find_32 x1 x3 ν = some r → Z g d (0, 0) mX0_find 333 0 0 32 [(0, .ref 282), (1, .ref x1), (3, .int x3)] [] (zem ν) (zF g (some (.int (b2i r.1)), zem r.2)) := by
  intro x1 x3 ν r hq1 h
  unfold Bu_find_32 at h
  refine z_iconst (M := mX0_find) (v := 0) dX0_find_32 rfl ?_
  refine z_istore (M := mX0_find) (lv2 := [(4, .int (0 : Int32)), (0, .ref 282), (1, .ref x1), (3, .int x3)]) dX0_find_33 (Nat.le_of_ble_eq_true rfl) rfl ?_
  refine z_lv (lv2 := [(0, .ref 282), (1, .ref x1), (3, .int x3), (4, .int (0 : Int32))]) [1, 2, 3, 0] rfl ?_
  exact t_Bu_find_35 hd0 FU x1 x3 (0 : Int32) ν _ hq1 h
def Bu_find_5 : Nat → Nat → Int32 → Int32 → Int32 → Nm → Option (Bool × Nm)
  | 0, _, _, _, _, _ => none
  | f + 1, x1, x2, x3, x4, ν =>
    (if x2 ≤ x4 then
      Bu_find_32 x1 x3 ν
    else
      (if (4 : Int32) ≤ x4 then
        Bu_find_32 x1 x3 ν
      else
        (Bu_find_5 f) x1 x2 (x3 * ((gi ν 282 2) + (1 : Int32))) (x4 + (1 : Int32)) ν))
set_option maxRecDepth 100000 in
set_option maxHeartbeats 4000000 in
theorem t_Bu_find_5 {g : GG} {d : Nat} (hd0 : 3 ≤ d) : ∀ (f : Nat), ∀ (x1 : Nat) (x2 : Int32) (x3 : Int32) (x4 : Int32) (ν : Nm) (r : (Bool × Nm)), zk 333 x1 (5, 0) → Bu_find_5 f x1 x2 x3 x4 ν = some r → Z g d (0, 0) mX0_find 333 0 0 5 [(0, .ref 282), (1, .ref x1), (2, .int x2), (3, .int x3), (4, .int x4)] [] (zem ν) (zF g (some (.int (b2i r.1)), zem r.2)) := by
  intro f
  induction f with
  | zero =>
    intro x1 x2 x3 x4 ν r hq1 h
    cases h
  | succ f ih =>
    intro x1 x2 x3 x4 ν r hq1 h
    rw [Bu_find_5] at h
    refine z_iload dX0_find_5 4 rfl ?_
    refine z_iload_n dX0_find_7 2 rfl ?_
    refine z_icmp_ge 32 dX0_find_8 rfl (fun hc1 => ?_) (fun hc1 => ?_)
    · replace h := oT hc1 h
      refine z_lv (lv2 := [(0, .ref 282), (1, .ref x1), (3, .int x3)]) [0, 1, 3] rfl ?_
      exact t_Bu_find_32 hd0  x1 x3 ν _ hq1 h
    · replace h := oF hc1 h
      refine z_iload dX0_find_11 4 rfl ?_
      refine z_iconst (M := mX0_find) (v := 4) dX0_find_13 rfl ?_
      refine z_icmp_ge 32 dX0_find_14 rfl (fun hc2 => ?_) (fun hc2 => ?_)
      · replace h := oT hc2 h
        refine z_lv (lv2 := [(0, .ref 282), (1, .ref x1), (3, .int x3)]) [0, 1, 3] rfl ?_
        exact t_Bu_find_32 hd0  x1 x3 ν _ hq1 h
      · replace h := oF hc2 h
        refine z_iload_n dX0_find_17 3 rfl ?_
        refine z_aload_n dX0_find_18 0 rfl ?_
        refine y_getI dX0_find_19 zk_282 flRX0_24 ?_
        refine z_iconst (M := mX0_find) (v := 1) dX0_find_22 rfl ?_
        refine z_iadd dX0_find_23 ?_
        refine z_imul dX0_find_24 ?_
        refine z_istore_n (M := mX0_find) (lv2 := [(3, .int (x3 * ((gi ν 282 2) + (1 : Int32)))), (0, .ref 282), (1, .ref x1), (2, .int x2), (4, .int x4)]) dX0_find_25 (Nat.le_of_ble_eq_true rfl) rfl ?_
        refine z_iinc (M := mX0_find) (v := (x4 + (1 : Int32))) (lv2 := [(4, .int (x4 + (1 : Int32))), (3, .int (x3 * ((gi ν 282 2) + (1 : Int32)))), (0, .ref 282), (1, .ref x1), (2, .int x2)]) dX0_find_26 4 rfl rfl (Nat.le_of_ble_eq_true rfl) rfl ?_
        refine z_goto 5 dX0_find_29 rfl ?_
        refine z_lv (lv2 := [(0, .ref 282), (1, .ref x1), (2, .int x2), (3, .int (x3 * ((gi ν 282 2) + (1 : Int32)))), (4, .int (x4 + (1 : Int32)))]) [2, 3, 4, 1, 0] rfl ?_
        exact ih x1 x2 (x3 * ((gi ν 282 2) + (1 : Int32))) (x4 + (1 : Int32)) ν _ hq1 h
def Bu_find (x1 : Nat) (x2 : Int32) (ν : Nm) : Option (Bool × Nm) :=
  Bu_find_5 FU x1 x2 (1 : Int32) (0 : Int32) ν
set_option maxRecDepth 100000 in
set_option maxHeartbeats 4000000 in
theorem t_Bu_find {g : GG} {d : Nat} (hd0 : 3 ≤ d) : ∀ (x1 : Nat) (x2 : Int32) (ν : Nm) (r : (Bool × Nm)), zk 333 x1 (5, 0) → Bu_find x1 x2 ν = some r → Z g d (0, 0) mX0_find 333 0 0 0 [(0, .ref 282), (1, .ref x1), (2, .int x2)] [] (zem ν) (zF g (some (.int (b2i r.1)), zem r.2)) := by
  intro x1 x2 ν r hq1 h
  unfold Bu_find at h
  refine z_iconst (M := mX0_find) (v := 1) dX0_find_0 rfl ?_
  refine z_istore_n (M := mX0_find) (lv2 := [(3, .int (1 : Int32)), (0, .ref 282), (1, .ref x1), (2, .int x2)]) dX0_find_1 (Nat.le_of_ble_eq_true rfl) rfl ?_
  refine z_iconst (M := mX0_find) (v := 0) dX0_find_2 rfl ?_
  refine z_istore (M := mX0_find) (lv2 := [(4, .int (0 : Int32)), (3, .int (1 : Int32)), (0, .ref 282), (1, .ref x1), (2, .int x2)]) dX0_find_3 (Nat.le_of_ble_eq_true rfl) rfl ?_
  refine z_lv (lv2 := [(0, .ref 282), (1, .ref x1), (2, .int x2), (3, .int (1 : Int32)), (4, .int (0 : Int32))]) [2, 3, 4, 1, 0] rfl ?_
  exact t_Bu_find_5 hd0 FU x1 x2 (1 : Int32) (0 : Int32) ν _ hq1 h
theorem ct_Bu_find {g : GG} {d : Nat} {x1 : Nat} {x2 : Int32} {ν : Nm} {r : (Bool × Nm)} (hd0 : 3 ≤ d) (hq1 : zk 333 x1 (5, 0)) (h : Bu_find x1 x2 ν = some r) : Ct g d mX0_find [.ref 282, .ref x1, .int x2] (zem ν) (some (.int (b2i r.1)), zem r.2) := y_entry in_X0_find (Nat.le_of_ble_eq_true rfl) rfl (t_Bu_find hd0 x1 x2 ν r hq1 h)
-- FuseMinutes$Bundles.cords()I
theorem dX0_cords_0 : decode cX0_cords 0 = .ok (.aload_n 0, 1) := by decide +kernel
theorem dX0_cords_1 : decode cX0_cords 1 = .ok (.getfield 30, 3) := by decide +kernel
theorem dX0_cords_4 : decode cX0_cords 4 = .ok (.bipush 16, 2) := by decide +kernel
theorem dX0_cords_6 : decode cX0_cords 6 = .ok (.lshr, 1) := by decide +kernel
theorem dX0_cords_7 : decode cX0_cords 7 = .ok (.ldc2_w 62, 3) := by decide +kernel
theorem dX0_cords_10 : decode cX0_cords 10 = .ok (.land, 1) := by decide +kernel
theorem dX0_cords_11 : decode cX0_cords 11 = .ok (.l2i, 1) := by decide +kernel
theorem dX0_cords_12 : decode cX0_cords 12 = .ok (.ireturn, 1) := by decide +kernel
def Bu_cords (ν : Nm) : Option Int32 :=
  some (((gl ν 282 3) >>> ((16 : Int32).toInt64 &&& 63)) &&& (15 : Int64)).toInt32
set_option maxRecDepth 100000 in
set_option maxHeartbeats 4000000 in
theorem t_Bu_cords {g : GG} {d : Nat} {ν : Nm} (hd0 : 1 ≤ d) : ∀ (r : Int32), Bu_cords ν = some r → Z g d (0, 0) mX0_cords 333 0 0 0 [(0, .ref 282)] [] (zem ν) (zF g (some (.int r), zem ν)) := by
  intro r h
  unfold Bu_cords at h
  refine z_aload_n dX0_cords_0 0 rfl ?_
  refine y_getL dX0_cords_1 zk_282 flRX0_30 ?_
  refine z_bipush (M := mX0_cords) (v := 16) dX0_cords_4 rfl ?_
  refine z_lshr dX0_cords_6 ?_
  refine z_ldc2 dX0_cords_7 csRX0_62 ?_
  refine z_land dX0_cords_10 ?_
  refine z_l2i dX0_cords_11 ?_
  cases h
  exact z_iret dX0_cords_12 rfl
theorem ct_Bu_cords {g : GG} {d : Nat} {ν : Nm} {r : Int32} (hd0 : 1 ≤ d)  (h : Bu_cords ν = some r) : Ct g d mX0_cords [.ref 282] (zem ν) (some (.int r), zem ν) := y_entry in_X0_cords (Nat.le_of_ble_eq_true rfl) rfl (t_Bu_cords hd0 r h)
-- FuseMinutes$Bundles.share(I)I
theorem dX0_share_0 : decode cX0_share 0 = .ok (.aload_n 0, 1) := by decide +kernel
theorem dX0_share_1 : decode cX0_share 1 = .ok (.getfield 30, 3) := by decide +kernel
theorem dX0_share_4 : decode cX0_share 4 = .ok (.iconst 4, 1) := by decide +kernel
theorem dX0_share_5 : decode cX0_share 5 = .ok (.iconst 3, 1) := by decide +kernel
theorem dX0_share_6 : decode cX0_share 6 = .ok (.iload_n 1, 1) := by decide +kernel
theorem dX0_share_7 : decode cX0_share 7 = .ok (.isub, 1) := by decide +kernel
theorem dX0_share_8 : decode cX0_share 8 = .ok (.imul, 1) := by decide +kernel
theorem dX0_share_9 : decode cX0_share 9 = .ok (.lshr, 1) := by decide +kernel
theorem dX0_share_10 : decode cX0_share 10 = .ok (.ldc2_w 62, 3) := by decide +kernel
theorem dX0_share_13 : decode cX0_share 13 = .ok (.land, 1) := by decide +kernel
theorem dX0_share_14 : decode cX0_share 14 = .ok (.l2i, 1) := by decide +kernel
theorem dX0_share_15 : decode cX0_share 15 = .ok (.ireturn, 1) := by decide +kernel
def Bu_share (ν : Nm) (x1 : Int32) : Option Int32 :=
  some (((gl ν 282 3) >>> (((4 : Int32) * ((3 : Int32) - x1)).toInt64 &&& 63)) &&& (15 : Int64)).toInt32
set_option maxRecDepth 100000 in
set_option maxHeartbeats 4000000 in
theorem t_Bu_share {g : GG} {d : Nat} {ν : Nm} (hd0 : 1 ≤ d) : ∀ (x1 : Int32) (r : Int32), Bu_share ν x1 = some r → Z g d (0, 0) mX0_share 333 0 0 0 [(0, .ref 282), (1, .int x1)] [] (zem ν) (zF g (some (.int r), zem ν)) := by
  intro x1 r h
  unfold Bu_share at h
  refine z_aload_n dX0_share_0 0 rfl ?_
  refine y_getL dX0_share_1 zk_282 flRX0_30 ?_
  refine z_iconst (M := mX0_share) (v := 4) dX0_share_4 rfl ?_
  refine z_iconst (M := mX0_share) (v := 3) dX0_share_5 rfl ?_
  refine z_iload_n dX0_share_6 1 rfl ?_
  refine z_isub dX0_share_7 ?_
  refine z_imul dX0_share_8 ?_
  refine z_lshr dX0_share_9 ?_
  refine z_ldc2 dX0_share_10 csRX0_62 ?_
  refine z_land dX0_share_13 ?_
  refine z_l2i dX0_share_14 ?_
  cases h
  exact z_iret dX0_share_15 rfl
theorem ct_Bu_share {g : GG} {d : Nat} {x1 : Int32} {ν : Nm} {r : Int32} (hd0 : 1 ≤ d)  (h : Bu_share ν x1 = some r) : Ct g d mX0_share [.ref 282, .int x1] (zem ν) (some (.int r), zem ν) := y_entry in_X0_share (Nat.le_of_ble_eq_true rfl) rfl (t_Bu_share hd0 x1 r h)
-- FuseMinutes$Sums.leaf(I)J
theorem dX7_leaf_0 : decode cX7_leaf 0 = .ok (.iload_n 1, 1) := by decide +kernel
theorem dX7_leaf_1 : decode cX7_leaf 1 = .ok (.ineg, 1) := by decide +kernel
theorem dX7_leaf_2 : decode cX7_leaf 2 = .ok (.tableswitch 193 4 26 #[121, 161, 193, 193, 193, 193, 193, 193, 193, 193, 193, 193, 193, 193, 193, 193, 193, 193, 106, 127, 147, 175, 187], 106) := by decide +kernel
theorem dX7_leaf_108 : decode cX7_leaf 108 = .ok (.aload_n 0, 1) := by decide +kernel
theorem dX7_leaf_109 : decode cX7_leaf 109 = .ok (.getfield 15, 3) := by decide +kernel
theorem dX7_leaf_112 : decode cX7_leaf 112 = .ok (.getfield 19, 3) := by decide +kernel
theorem dX7_leaf_115 : decode cX7_leaf 115 = .ok (.getfield 78, 3) := by decide +kernel
theorem dX7_leaf_118 : decode cX7_leaf 118 = .ok (.bipush 64, 2) := by decide +kernel
theorem dX7_leaf_120 : decode cX7_leaf 120 = .ok (.idiv, 1) := by decide +kernel
theorem dX7_leaf_121 : decode cX7_leaf 121 = .ok (.i2l, 1) := by decide +kernel
theorem dX7_leaf_122 : decode cX7_leaf 122 = .ok (.lreturn, 1) := by decide +kernel
theorem dX7_leaf_123 : decode cX7_leaf 123 = .ok (.aload_n 0, 1) := by decide +kernel
theorem dX7_leaf_124 : decode cX7_leaf 124 = .ok (.getfield 31, 3) := by decide +kernel
theorem dX7_leaf_127 : decode cX7_leaf 127 = .ok (.i2l, 1) := by decide +kernel
theorem dX7_leaf_128 : decode cX7_leaf 128 = .ok (.lreturn, 1) := by decide +kernel
theorem dX7_leaf_129 : decode cX7_leaf 129 = .ok (.aload_n 0, 1) := by decide +kernel
theorem dX7_leaf_130 : decode cX7_leaf 130 = .ok (.getfield 15, 3) := by decide +kernel
theorem dX7_leaf_133 : decode cX7_leaf 133 = .ok (.getfield 19, 3) := by decide +kernel
theorem dX7_leaf_136 : decode cX7_leaf 136 = .ok (.getfield 81, 3) := by decide +kernel
theorem dX7_leaf_139 : decode cX7_leaf 139 = .ok (.aload_n 0, 1) := by decide +kernel
theorem dX7_leaf_140 : decode cX7_leaf 140 = .ok (.getfield 31, 3) := by decide +kernel
theorem dX7_leaf_143 : decode cX7_leaf 143 = .ok (.iaload, 1) := by decide +kernel
theorem dX7_leaf_144 : decode cX7_leaf 144 = .ok (.bipush 64, 2) := by decide +kernel
theorem dX7_leaf_146 : decode cX7_leaf 146 = .ok (.idiv, 1) := by decide +kernel
theorem dX7_leaf_147 : decode cX7_leaf 147 = .ok (.i2l, 1) := by decide +kernel
theorem dX7_leaf_148 : decode cX7_leaf 148 = .ok (.lreturn, 1) := by decide +kernel
theorem dX7_leaf_149 : decode cX7_leaf 149 = .ok (.aload_n 0, 1) := by decide +kernel
theorem dX7_leaf_150 : decode cX7_leaf 150 = .ok (.getfield 15, 3) := by decide +kernel
theorem dX7_leaf_153 : decode cX7_leaf 153 = .ok (.getfield 84, 3) := by decide +kernel
theorem dX7_leaf_156 : decode cX7_leaf 156 = .ok (.aload_n 0, 1) := by decide +kernel
theorem dX7_leaf_157 : decode cX7_leaf 157 = .ok (.getfield 31, 3) := by decide +kernel
theorem dX7_leaf_160 : decode cX7_leaf 160 = .ok (.iaload, 1) := by decide +kernel
theorem dX7_leaf_161 : decode cX7_leaf 161 = .ok (.i2l, 1) := by decide +kernel
theorem dX7_leaf_162 : decode cX7_leaf 162 = .ok (.lreturn, 1) := by decide +kernel
theorem dX7_leaf_163 : decode cX7_leaf 163 = .ok (.aload_n 0, 1) := by decide +kernel
theorem dX7_leaf_164 : decode cX7_leaf 164 = .ok (.getfield 15, 3) := by decide +kernel
theorem dX7_leaf_167 : decode cX7_leaf 167 = .ok (.getfield 87, 3) := by decide +kernel
theorem dX7_leaf_170 : decode cX7_leaf 170 = .ok (.aload_n 0, 1) := by decide +kernel
theorem dX7_leaf_171 : decode cX7_leaf 171 = .ok (.getfield 31, 3) := by decide +kernel
theorem dX7_leaf_174 : decode cX7_leaf 174 = .ok (.iaload, 1) := by decide +kernel
theorem dX7_leaf_175 : decode cX7_leaf 175 = .ok (.i2l, 1) := by decide +kernel
theorem dX7_leaf_176 : decode cX7_leaf 176 = .ok (.lreturn, 1) := by decide +kernel
theorem dX7_leaf_177 : decode cX7_leaf 177 = .ok (.aload_n 0, 1) := by decide +kernel
theorem dX7_leaf_178 : decode cX7_leaf 178 = .ok (.getfield 15, 3) := by decide +kernel
theorem dX7_leaf_181 : decode cX7_leaf 181 = .ok (.getfield 19, 3) := by decide +kernel
theorem dX7_leaf_184 : decode cX7_leaf 184 = .ok (.invokevirtual 90, 3) := by decide +kernel
theorem dX7_leaf_187 : decode cX7_leaf 187 = .ok (.i2l, 1) := by decide +kernel
theorem dX7_leaf_188 : decode cX7_leaf 188 = .ok (.lreturn, 1) := by decide +kernel
theorem dX7_leaf_189 : decode cX7_leaf 189 = .ok (.aload_n 0, 1) := by decide +kernel
theorem dX7_leaf_190 : decode cX7_leaf 190 = .ok (.getfield 35, 3) := by decide +kernel
theorem dX7_leaf_193 : decode cX7_leaf 193 = .ok (.i2l, 1) := by decide +kernel
theorem dX7_leaf_194 : decode cX7_leaf 194 = .ok (.lreturn, 1) := by decide +kernel
theorem dX7_leaf_195 : decode cX7_leaf 195 = .ok (.iload_n 1, 1) := by decide +kernel
theorem dX7_leaf_196 : decode cX7_leaf 196 = .ok (.i2l, 1) := by decide +kernel
theorem dX7_leaf_197 : decode cX7_leaf 197 = .ok (.lreturn, 1) := by decide +kernel
def Su_leaf (ν : Nm) (x1 : Int32) : Option Int64 :=
  (if (-x1) = (4 : Int32) then
    some (gi ν 274 2).toInt64
  else
  (if (-x1) = (5 : Int32) then
    if inb (gi ν 274 2) 4 then
    some (gi ν 129 (gi ν 274 2).toNatClampNeg).toInt64
    else none
  else
  (if (-x1) = (22 : Int32) then
    some ((gi ν 2 1) / (64 : Int32)).toInt64
  else
  (if (-x1) = (23 : Int32) then
    if inb (gi ν 274 2) 4 then
    some ((gi ν 3 (gi ν 274 2).toNatClampNeg) / (64 : Int32)).toInt64
    else none
  else
  (if (-x1) = (24 : Int32) then
    if inb (gi ν 274 2) 4 then
    some (gi ν 128 (gi ν 274 2).toNatClampNeg).toInt64
    else none
  else
  (if (-x1) = (25 : Int32) then
    (Pt_endsBurning ν 2).bind fun v9 =>
    some v9.toInt64
  else
  (if (-x1) = (26 : Int32) then
    some (gi ν 274 3).toInt64
  else
    some x1.toInt64)))))))
set_option maxRecDepth 100000 in
set_option maxHeartbeats 4000000 in
theorem t_Su_leaf {g : GG} {d : Nat} {ν : Nm} (hd0 : 2 ≤ d) : ∀ (x1 : Int32) (r : Int64), Su_leaf ν x1 = some r → Z g d (0, 0) mX7_leaf 333 0 0 0 [(0, .ref 274), (1, .int x1)] [] (zem ν) (zF g (some (.long r), zem ν)) := by
  intro x1 r h
  unfold Su_leaf at h
  refine z_iload_n dX7_leaf_0 1 rfl ?_
  refine z_ineg dX7_leaf_1 ?_
  by_cases hc1 : (-x1) = (4 : Int32)
  · replace h := oT hc1 h
    refine y_sw (4 : Int32) (4) 123 dX7_leaf_2 hc1 rfl (by decide) (by decide) rfl rfl ?_
    refine z_aload_n dX7_leaf_123 0 rfl ?_
    refine y_getI dX7_leaf_124 zk_274 flRX7_31 ?_
    refine z_i2l dX7_leaf_127 ?_
    cases h
    exact z_lret dX7_leaf_128 rfl
  replace h := oF hc1 h
  by_cases hc3 : (-x1) = (5 : Int32)
  · replace h := oT hc3 h
    refine y_sw (5 : Int32) (5) 163 dX7_leaf_2 hc3 rfl (by decide) (by decide) rfl rfl ?_
    refine z_aload_n dX7_leaf_163 0 rfl ?_
    refine y_getR (M := mX7_leaf) (r := 1) dX7_leaf_164 zk_274 flRX7_15 fr_6_0.1 (fr_6_0.2 _) ?_
    refine y_getR (M := mX7_leaf) (r := 129) dX7_leaf_167 zk_1 flRX7_87 fr_5_3.1 (fr_5_3.2 _) ?_
    refine z_aload_n dX7_leaf_170 0 rfl ?_
    refine y_getI dX7_leaf_171 zk_274 flRX7_31 ?_
    obtain ⟨hi2, h⟩ := oif h
    refine y_iald (M := mX7_leaf) (jj := (gi ν 274 2).toNatClampNeg) dX7_leaf_174 zk_129 hi2 rfl ?_
    refine z_i2l dX7_leaf_175 ?_
    cases h
    exact z_lret dX7_leaf_176 rfl
  replace h := oF hc3 h
  by_cases hc4 : (-x1) = (22 : Int32)
  · replace h := oT hc4 h
    refine y_sw (22 : Int32) (22) 108 dX7_leaf_2 hc4 rfl (by decide) (by decide) rfl rfl ?_
    refine z_aload_n dX7_leaf_108 0 rfl ?_
    refine y_getR (M := mX7_leaf) (r := 1) dX7_leaf_109 zk_274 flRX7_15 fr_6_0.1 (fr_6_0.2 _) ?_
    refine y_getR (M := mX7_leaf) (r := 2) dX7_leaf_112 zk_1 flRX7_19 fr_5_0.1 (fr_5_0.2 _) ?_
    refine y_getI dX7_leaf_115 zk_2 flRX7_78 ?_
    refine z_bipush (M := mX7_leaf) (v := 64) dX7_leaf_118 rfl ?_
    refine z_idiv dX7_leaf_120 (by decide) ?_
    refine z_i2l dX7_leaf_121 ?_
    cases h
    exact z_lret dX7_leaf_122 rfl
  replace h := oF hc4 h
  by_cases hc6 : (-x1) = (23 : Int32)
  · replace h := oT hc6 h
    refine y_sw (23 : Int32) (23) 129 dX7_leaf_2 hc6 rfl (by decide) (by decide) rfl rfl ?_
    refine z_aload_n dX7_leaf_129 0 rfl ?_
    refine y_getR (M := mX7_leaf) (r := 1) dX7_leaf_130 zk_274 flRX7_15 fr_6_0.1 (fr_6_0.2 _) ?_
    refine y_getR (M := mX7_leaf) (r := 2) dX7_leaf_133 zk_1 flRX7_19 fr_5_0.1 (fr_5_0.2 _) ?_
    refine y_getR (M := mX7_leaf) (r := 3) dX7_leaf_136 zk_2 flRX7_81 fr_1_4.1 (fr_1_4.2 _) ?_
    refine z_aload_n dX7_leaf_139 0 rfl ?_
    refine y_getI dX7_leaf_140 zk_274 flRX7_31 ?_
    obtain ⟨hi5, h⟩ := oif h
    refine y_iald (M := mX7_leaf) (jj := (gi ν 274 2).toNatClampNeg) dX7_leaf_143 zk_3 hi5 rfl ?_
    refine z_bipush (M := mX7_leaf) (v := 64) dX7_leaf_144 rfl ?_
    refine z_idiv dX7_leaf_146 (by decide) ?_
    refine z_i2l dX7_leaf_147 ?_
    cases h
    exact z_lret dX7_leaf_148 rfl
  replace h := oF hc6 h
  by_cases hc8 : (-x1) = (24 : Int32)
  · replace h := oT hc8 h
    refine y_sw (24 : Int32) (24) 149 dX7_leaf_2 hc8 rfl (by decide) (by decide) rfl rfl ?_
    refine z_aload_n dX7_leaf_149 0 rfl ?_
    refine y_getR (M := mX7_leaf) (r := 1) dX7_leaf_150 zk_274 flRX7_15 fr_6_0.1 (fr_6_0.2 _) ?_
    refine y_getR (M := mX7_leaf) (r := 128) dX7_leaf_153 zk_1 flRX7_84 fr_5_2.1 (fr_5_2.2 _) ?_
    refine z_aload_n dX7_leaf_156 0 rfl ?_
    refine y_getI dX7_leaf_157 zk_274 flRX7_31 ?_
    obtain ⟨hi7, h⟩ := oif h
    refine y_iald (M := mX7_leaf) (jj := (gi ν 274 2).toNatClampNeg) dX7_leaf_160 zk_128 hi7 rfl ?_
    refine z_i2l dX7_leaf_161 ?_
    cases h
    exact z_lret dX7_leaf_162 rfl
  replace h := oF hc8 h
  by_cases hc10 : (-x1) = (25 : Int32)
  · replace h := oT hc10 h
    refine y_sw (25 : Int32) (25) 177 dX7_leaf_2 hc10 rfl (by decide) (by decide) rfl rfl ?_
    refine z_aload_n dX7_leaf_177 0 rfl ?_
    refine y_getR (M := mX7_leaf) (r := 1) dX7_leaf_178 zk_274 flRX7_15 fr_6_0.1 (fr_6_0.2 _) ?_
    refine y_getR (M := mX7_leaf) (r := 2) dX7_leaf_181 zk_1 flRX7_19 fr_5_0.1 (fr_5_0.2 _) ?_
    obtain ⟨v9, he9, h⟩ := obind h
    refine y_Vi (M := mX7_leaf) (Y := mX2_endsBurning) (d2 := d - 1) (As := []) (st := []) dX7_leaf_184 mlRX7_90 cv_X2_endsBurning zk_2 (ct_Pt_endsBurning (dle (Nat.le_of_ble_eq_true rfl) hd0) zk_2 he9) (dps (Nat.le_of_ble_eq_true rfl) hd0) rfl rfl (Nat.le_of_ble_eq_true rfl) ?_
    refine z_i2l dX7_leaf_187 ?_
    cases h
    exact z_lret dX7_leaf_188 rfl
  replace h := oF hc10 h
  by_cases hc11 : (-x1) = (26 : Int32)
  · replace h := oT hc11 h
    refine y_sw (26 : Int32) (26) 189 dX7_leaf_2 hc11 rfl (by decide) (by decide) rfl rfl ?_
    refine z_aload_n dX7_leaf_189 0 rfl ?_
    refine y_getI dX7_leaf_190 zk_274 flRX7_35 ?_
    refine z_i2l dX7_leaf_193 ?_
    cases h
    exact z_lret dX7_leaf_194 rfl
  replace h := oF hc11 h
  have zhc1 := i32ne hc1 (z := 4) rfl
  have zhc3 := i32ne hc3 (z := 5) rfl
  have zhc4 := i32ne hc4 (z := 22) rfl
  have zhc6 := i32ne hc6 (z := 23) rfl
  have zhc8 := i32ne hc8 (z := 24) rfl
  have zhc10 := i32ne hc10 (z := 25) rfl
  have zhc11 := i32ne hc11 (z := 26) rfl
  by_cases hc12 : (-x1) = (6 : Int32)
  · refine y_sw (6 : Int32) (6) 195 dX7_leaf_2 hc12 rfl (by decide) (by decide) rfl rfl ?_
    refine z_iload_n dX7_leaf_195 1 rfl ?_
    refine z_i2l dX7_leaf_196 ?_
    cases h
    exact z_lret dX7_leaf_197 rfl
  have zhc12 := i32ne hc12 (z := 6) rfl
  by_cases hc13 : (-x1) = (7 : Int32)
  · refine y_sw (7 : Int32) (7) 195 dX7_leaf_2 hc13 rfl (by decide) (by decide) rfl rfl ?_
    refine z_iload_n dX7_leaf_195 1 rfl ?_
    refine z_i2l dX7_leaf_196 ?_
    cases h
    exact z_lret dX7_leaf_197 rfl
  have zhc13 := i32ne hc13 (z := 7) rfl
  by_cases hc14 : (-x1) = (8 : Int32)
  · refine y_sw (8 : Int32) (8) 195 dX7_leaf_2 hc14 rfl (by decide) (by decide) rfl rfl ?_
    refine z_iload_n dX7_leaf_195 1 rfl ?_
    refine z_i2l dX7_leaf_196 ?_
    cases h
    exact z_lret dX7_leaf_197 rfl
  have zhc14 := i32ne hc14 (z := 8) rfl
  by_cases hc15 : (-x1) = (9 : Int32)
  · refine y_sw (9 : Int32) (9) 195 dX7_leaf_2 hc15 rfl (by decide) (by decide) rfl rfl ?_
    refine z_iload_n dX7_leaf_195 1 rfl ?_
    refine z_i2l dX7_leaf_196 ?_
    cases h
    exact z_lret dX7_leaf_197 rfl
  have zhc15 := i32ne hc15 (z := 9) rfl
  by_cases hc16 : (-x1) = (10 : Int32)
  · refine y_sw (10 : Int32) (10) 195 dX7_leaf_2 hc16 rfl (by decide) (by decide) rfl rfl ?_
    refine z_iload_n dX7_leaf_195 1 rfl ?_
    refine z_i2l dX7_leaf_196 ?_
    cases h
    exact z_lret dX7_leaf_197 rfl
  have zhc16 := i32ne hc16 (z := 10) rfl
  by_cases hc17 : (-x1) = (11 : Int32)
  · refine y_sw (11 : Int32) (11) 195 dX7_leaf_2 hc17 rfl (by decide) (by decide) rfl rfl ?_
    refine z_iload_n dX7_leaf_195 1 rfl ?_
    refine z_i2l dX7_leaf_196 ?_
    cases h
    exact z_lret dX7_leaf_197 rfl
  have zhc17 := i32ne hc17 (z := 11) rfl
  by_cases hc18 : (-x1) = (12 : Int32)
  · refine y_sw (12 : Int32) (12) 195 dX7_leaf_2 hc18 rfl (by decide) (by decide) rfl rfl ?_
    refine z_iload_n dX7_leaf_195 1 rfl ?_
    refine z_i2l dX7_leaf_196 ?_
    cases h
    exact z_lret dX7_leaf_197 rfl
  have zhc18 := i32ne hc18 (z := 12) rfl
  by_cases hc19 : (-x1) = (13 : Int32)
  · refine y_sw (13 : Int32) (13) 195 dX7_leaf_2 hc19 rfl (by decide) (by decide) rfl rfl ?_
    refine z_iload_n dX7_leaf_195 1 rfl ?_
    refine z_i2l dX7_leaf_196 ?_
    cases h
    exact z_lret dX7_leaf_197 rfl
  have zhc19 := i32ne hc19 (z := 13) rfl
  by_cases hc20 : (-x1) = (14 : Int32)
  · refine y_sw (14 : Int32) (14) 195 dX7_leaf_2 hc20 rfl (by decide) (by decide) rfl rfl ?_
    refine z_iload_n dX7_leaf_195 1 rfl ?_
    refine z_i2l dX7_leaf_196 ?_
    cases h
    exact z_lret dX7_leaf_197 rfl
  have zhc20 := i32ne hc20 (z := 14) rfl
  by_cases hc21 : (-x1) = (15 : Int32)
  · refine y_sw (15 : Int32) (15) 195 dX7_leaf_2 hc21 rfl (by decide) (by decide) rfl rfl ?_
    refine z_iload_n dX7_leaf_195 1 rfl ?_
    refine z_i2l dX7_leaf_196 ?_
    cases h
    exact z_lret dX7_leaf_197 rfl
  have zhc21 := i32ne hc21 (z := 15) rfl
  by_cases hc22 : (-x1) = (16 : Int32)
  · refine y_sw (16 : Int32) (16) 195 dX7_leaf_2 hc22 rfl (by decide) (by decide) rfl rfl ?_
    refine z_iload_n dX7_leaf_195 1 rfl ?_
    refine z_i2l dX7_leaf_196 ?_
    cases h
    exact z_lret dX7_leaf_197 rfl
  have zhc22 := i32ne hc22 (z := 16) rfl
  by_cases hc23 : (-x1) = (17 : Int32)
  · refine y_sw (17 : Int32) (17) 195 dX7_leaf_2 hc23 rfl (by decide) (by decide) rfl rfl ?_
    refine z_iload_n dX7_leaf_195 1 rfl ?_
    refine z_i2l dX7_leaf_196 ?_
    cases h
    exact z_lret dX7_leaf_197 rfl
  have zhc23 := i32ne hc23 (z := 17) rfl
  by_cases hc24 : (-x1) = (18 : Int32)
  · refine y_sw (18 : Int32) (18) 195 dX7_leaf_2 hc24 rfl (by decide) (by decide) rfl rfl ?_
    refine z_iload_n dX7_leaf_195 1 rfl ?_
    refine z_i2l dX7_leaf_196 ?_
    cases h
    exact z_lret dX7_leaf_197 rfl
  have zhc24 := i32ne hc24 (z := 18) rfl
  by_cases hc25 : (-x1) = (19 : Int32)
  · refine y_sw (19 : Int32) (19) 195 dX7_leaf_2 hc25 rfl (by decide) (by decide) rfl rfl ?_
    refine z_iload_n dX7_leaf_195 1 rfl ?_
    refine z_i2l dX7_leaf_196 ?_
    cases h
    exact z_lret dX7_leaf_197 rfl
  have zhc25 := i32ne hc25 (z := 19) rfl
  by_cases hc26 : (-x1) = (20 : Int32)
  · refine y_sw (20 : Int32) (20) 195 dX7_leaf_2 hc26 rfl (by decide) (by decide) rfl rfl ?_
    refine z_iload_n dX7_leaf_195 1 rfl ?_
    refine z_i2l dX7_leaf_196 ?_
    cases h
    exact z_lret dX7_leaf_197 rfl
  have zhc26 := i32ne hc26 (z := 20) rfl
  by_cases hc27 : (-x1) = (21 : Int32)
  · refine y_sw (21 : Int32) (21) 195 dX7_leaf_2 hc27 rfl (by decide) (by decide) rfl rfl ?_
    refine z_iload_n dX7_leaf_195 1 rfl ?_
    refine z_i2l dX7_leaf_196 ?_
    cases h
    exact z_lret dX7_leaf_197 rfl
  have zhc27 := i32ne hc27 (z := 21) rfl
  refine z_tableOut 195 dX7_leaf_2 (by omega) rfl ?_
  refine z_iload_n dX7_leaf_195 1 rfl ?_
  refine z_i2l dX7_leaf_196 ?_
  cases h
  exact z_lret dX7_leaf_197 rfl
theorem ct_Su_leaf {g : GG} {d : Nat} {x1 : Int32} {ν : Nm} {r : Int64} (hd0 : 2 ≤ d)  (h : Su_leaf ν x1 = some r) : Ct g d mX7_leaf [.ref 274, .int x1] (zem ν) (some (.long r), zem ν) := y_entry in_X7_leaf (Nat.le_of_ble_eq_true rfl) rfl (t_Su_leaf hd0 x1 r h)
-- FuseMinutes$Sums.limited(J)I
theorem dX7_limited_0 : decode cX7_limited 0 = .ok (.ldc2_w 65, 3) := by decide +kernel
theorem dX7_limited_3 : decode cX7_limited 3 = .ok (.ldc2_w 67, 3) := by decide +kernel
theorem dX7_limited_6 : decode cX7_limited 6 = .ok (.lload_n 0, 1) := by decide +kernel
theorem dX7_limited_7 : decode cX7_limited 7 = .ok (.invokestatic 69, 3) := by decide +kernel
theorem dX7_limited_10 : decode cX7_limited 10 = .ok (.invokestatic 75, 3) := by decide +kernel
theorem dX7_limited_13 : decode cX7_limited 13 = .ok (.l2i, 1) := by decide +kernel
theorem dX7_limited_14 : decode cX7_limited 14 = .ok (.ireturn, 1) := by decide +kernel
def Su_limited (x0 : Int64) : Option Int32 :=
  some (lmax (-1000000 : Int64) (lmin (1000000 : Int64) x0)).toInt32
set_option maxRecDepth 100000 in
set_option maxHeartbeats 4000000 in
theorem t_Su_limited {g : GG} {d : Nat} {μ : Mm} (hd0 : 1 ≤ d) : ∀ (x0 : Int64) (r : Int32), Su_limited x0 = some r → Z g d (0, 0) mX7_limited 333 0 0 0 [(0, .long x0)] [] μ (zF g (some (.int r), μ)) := by
  intro x0 r h
  unfold Su_limited at h
  refine z_ldc2 dX7_limited_0 csRX7_65 ?_
  refine z_ldc2 dX7_limited_3 csRX7_67 ?_
  refine z_lload_n dX7_limited_6 0 rfl ?_
  refine y_lmin dX7_limited_7 mlRX7_69 mw_lmin (Nat.le_trans (Nat.le_of_ble_eq_true rfl) hd0) (Nat.le_of_ble_eq_true rfl) ?_
  refine y_lmax dX7_limited_10 mlRX7_75 mw_lmax (Nat.le_trans (Nat.le_of_ble_eq_true rfl) hd0) (Nat.le_of_ble_eq_true rfl) ?_
  refine z_l2i dX7_limited_13 ?_
  cases h
  exact z_iret dX7_limited_14 rfl
theorem ct_Su_limited {g : GG} {d : Nat} {x0 : Int64} {μ : Mm} {r : Int32} (hd0 : 1 ≤ d)  (h : Su_limited x0 = some r) : Ct g d mX7_limited [.long x0] μ (some (.int r), μ) := y_entry in_X7_limited (Nat.le_of_ble_eq_true rfl) rfl (t_Su_limited hd0 x0 r h)
-- FuseMinutes$Sums.holds(IJJ)Z
theorem dX7_holds_0 : decode cX7_holds 0 = .ok (.iload_n 0, 1) := by decide +kernel
theorem dX7_holds_1 : decode cX7_holds 1 = .ok (.lookupswitch 203 #[(19, 173), (20, 155), (21, 191), (35, 143), (60, 83), (61, 131), (62, 107), (128, 95), (129, 119)], 83) := by decide +kernel
theorem dX7_holds_84 : decode cX7_holds 84 = .ok (.lload_n 1, 1) := by decide +kernel
theorem dX7_holds_85 : decode cX7_holds 85 = .ok (.lload_n 3, 1) := by decide +kernel
theorem dX7_holds_86 : decode cX7_holds 86 = .ok (.lcmp, 1) := by decide +kernel
theorem dX7_holds_87 : decode cX7_holds 87 = .ok (.ifCond .ge 7, 3) := by decide +kernel
theorem dX7_holds_90 : decode cX7_holds 90 = .ok (.iconst 1, 1) := by decide +kernel
theorem dX7_holds_91 : decode cX7_holds 91 = .ok (.goto 4, 3) := by decide +kernel
theorem dX7_holds_94 : decode cX7_holds 94 = .ok (.iconst 0, 1) := by decide +kernel
theorem dX7_holds_95 : decode cX7_holds 95 = .ok (.ireturn, 1) := by decide +kernel
theorem dX7_holds_96 : decode cX7_holds 96 = .ok (.lload_n 1, 1) := by decide +kernel
theorem dX7_holds_97 : decode cX7_holds 97 = .ok (.lload_n 3, 1) := by decide +kernel
theorem dX7_holds_98 : decode cX7_holds 98 = .ok (.lcmp, 1) := by decide +kernel
theorem dX7_holds_99 : decode cX7_holds 99 = .ok (.ifCond .gt 7, 3) := by decide +kernel
theorem dX7_holds_102 : decode cX7_holds 102 = .ok (.iconst 1, 1) := by decide +kernel
theorem dX7_holds_103 : decode cX7_holds 103 = .ok (.goto 4, 3) := by decide +kernel
theorem dX7_holds_106 : decode cX7_holds 106 = .ok (.iconst 0, 1) := by decide +kernel
theorem dX7_holds_107 : decode cX7_holds 107 = .ok (.ireturn, 1) := by decide +kernel
theorem dX7_holds_108 : decode cX7_holds 108 = .ok (.lload_n 1, 1) := by decide +kernel
theorem dX7_holds_109 : decode cX7_holds 109 = .ok (.lload_n 3, 1) := by decide +kernel
theorem dX7_holds_110 : decode cX7_holds 110 = .ok (.lcmp, 1) := by decide +kernel
theorem dX7_holds_111 : decode cX7_holds 111 = .ok (.ifCond .le 7, 3) := by decide +kernel
theorem dX7_holds_114 : decode cX7_holds 114 = .ok (.iconst 1, 1) := by decide +kernel
theorem dX7_holds_115 : decode cX7_holds 115 = .ok (.goto 4, 3) := by decide +kernel
theorem dX7_holds_118 : decode cX7_holds 118 = .ok (.iconst 0, 1) := by decide +kernel
theorem dX7_holds_119 : decode cX7_holds 119 = .ok (.ireturn, 1) := by decide +kernel
theorem dX7_holds_120 : decode cX7_holds 120 = .ok (.lload_n 1, 1) := by decide +kernel
theorem dX7_holds_121 : decode cX7_holds 121 = .ok (.lload_n 3, 1) := by decide +kernel
theorem dX7_holds_122 : decode cX7_holds 122 = .ok (.lcmp, 1) := by decide +kernel
theorem dX7_holds_123 : decode cX7_holds 123 = .ok (.ifCond .lt 7, 3) := by decide +kernel
theorem dX7_holds_126 : decode cX7_holds 126 = .ok (.iconst 1, 1) := by decide +kernel
theorem dX7_holds_127 : decode cX7_holds 127 = .ok (.goto 4, 3) := by decide +kernel
theorem dX7_holds_130 : decode cX7_holds 130 = .ok (.iconst 0, 1) := by decide +kernel
theorem dX7_holds_131 : decode cX7_holds 131 = .ok (.ireturn, 1) := by decide +kernel
theorem dX7_holds_132 : decode cX7_holds 132 = .ok (.lload_n 1, 1) := by decide +kernel
theorem dX7_holds_133 : decode cX7_holds 133 = .ok (.lload_n 3, 1) := by decide +kernel
theorem dX7_holds_134 : decode cX7_holds 134 = .ok (.lcmp, 1) := by decide +kernel
theorem dX7_holds_135 : decode cX7_holds 135 = .ok (.ifCond .ne 7, 3) := by decide +kernel
theorem dX7_holds_138 : decode cX7_holds 138 = .ok (.iconst 1, 1) := by decide +kernel
theorem dX7_holds_139 : decode cX7_holds 139 = .ok (.goto 4, 3) := by decide +kernel
theorem dX7_holds_142 : decode cX7_holds 142 = .ok (.iconst 0, 1) := by decide +kernel
theorem dX7_holds_143 : decode cX7_holds 143 = .ok (.ireturn, 1) := by decide +kernel
theorem dX7_holds_144 : decode cX7_holds 144 = .ok (.lload_n 1, 1) := by decide +kernel
theorem dX7_holds_145 : decode cX7_holds 145 = .ok (.lload_n 3, 1) := by decide +kernel
theorem dX7_holds_146 : decode cX7_holds 146 = .ok (.lcmp, 1) := by decide +kernel
theorem dX7_holds_147 : decode cX7_holds 147 = .ok (.ifCond .eq 7, 3) := by decide +kernel
theorem dX7_holds_150 : decode cX7_holds 150 = .ok (.iconst 1, 1) := by decide +kernel
theorem dX7_holds_151 : decode cX7_holds 151 = .ok (.goto 4, 3) := by decide +kernel
theorem dX7_holds_154 : decode cX7_holds 154 = .ok (.iconst 0, 1) := by decide +kernel
theorem dX7_holds_155 : decode cX7_holds 155 = .ok (.ireturn, 1) := by decide +kernel
theorem dX7_holds_156 : decode cX7_holds 156 = .ok (.lload_n 1, 1) := by decide +kernel
theorem dX7_holds_157 : decode cX7_holds 157 = .ok (.lconst 0, 1) := by decide +kernel
theorem dX7_holds_158 : decode cX7_holds 158 = .ok (.lcmp, 1) := by decide +kernel
theorem dX7_holds_159 : decode cX7_holds 159 = .ok (.ifCond .eq 13, 3) := by decide +kernel
theorem dX7_holds_162 : decode cX7_holds 162 = .ok (.lload_n 3, 1) := by decide +kernel
theorem dX7_holds_163 : decode cX7_holds 163 = .ok (.lconst 0, 1) := by decide +kernel
theorem dX7_holds_164 : decode cX7_holds 164 = .ok (.lcmp, 1) := by decide +kernel
theorem dX7_holds_165 : decode cX7_holds 165 = .ok (.ifCond .eq 7, 3) := by decide +kernel
theorem dX7_holds_168 : decode cX7_holds 168 = .ok (.iconst 1, 1) := by decide +kernel
theorem dX7_holds_169 : decode cX7_holds 169 = .ok (.goto 4, 3) := by decide +kernel
theorem dX7_holds_172 : decode cX7_holds 172 = .ok (.iconst 0, 1) := by decide +kernel
theorem dX7_holds_173 : decode cX7_holds 173 = .ok (.ireturn, 1) := by decide +kernel
theorem dX7_holds_174 : decode cX7_holds 174 = .ok (.lload_n 1, 1) := by decide +kernel
theorem dX7_holds_175 : decode cX7_holds 175 = .ok (.lconst 0, 1) := by decide +kernel
theorem dX7_holds_176 : decode cX7_holds 176 = .ok (.lcmp, 1) := by decide +kernel
theorem dX7_holds_177 : decode cX7_holds 177 = .ok (.ifCond .ne 9, 3) := by decide +kernel
theorem dX7_holds_180 : decode cX7_holds 180 = .ok (.lload_n 3, 1) := by decide +kernel
theorem dX7_holds_181 : decode cX7_holds 181 = .ok (.lconst 0, 1) := by decide +kernel
theorem dX7_holds_182 : decode cX7_holds 182 = .ok (.lcmp, 1) := by decide +kernel
theorem dX7_holds_183 : decode cX7_holds 183 = .ok (.ifCond .eq 7, 3) := by decide +kernel
theorem dX7_holds_186 : decode cX7_holds 186 = .ok (.iconst 1, 1) := by decide +kernel
theorem dX7_holds_187 : decode cX7_holds 187 = .ok (.goto 4, 3) := by decide +kernel
theorem dX7_holds_190 : decode cX7_holds 190 = .ok (.iconst 0, 1) := by decide +kernel
theorem dX7_holds_191 : decode cX7_holds 191 = .ok (.ireturn, 1) := by decide +kernel
theorem dX7_holds_192 : decode cX7_holds 192 = .ok (.lload_n 1, 1) := by decide +kernel
theorem dX7_holds_193 : decode cX7_holds 193 = .ok (.lconst 0, 1) := by decide +kernel
theorem dX7_holds_194 : decode cX7_holds 194 = .ok (.lcmp, 1) := by decide +kernel
theorem dX7_holds_195 : decode cX7_holds 195 = .ok (.ifCond .ne 7, 3) := by decide +kernel
theorem dX7_holds_198 : decode cX7_holds 198 = .ok (.iconst 1, 1) := by decide +kernel
theorem dX7_holds_199 : decode cX7_holds 199 = .ok (.goto 4, 3) := by decide +kernel
theorem dX7_holds_202 : decode cX7_holds 202 = .ok (.iconst 0, 1) := by decide +kernel
theorem dX7_holds_203 : decode cX7_holds 203 = .ok (.ireturn, 1) := by decide +kernel
theorem dX7_holds_204 : decode cX7_holds 204 = .ok (.iconst 0, 1) := by decide +kernel
theorem dX7_holds_205 : decode cX7_holds 205 = .ok (.ireturn, 1) := by decide +kernel
def Su_holds (x0 : Int32) (x1 : Int64) (x3 : Int64) : Option Bool :=
  (if x0 = (19 : Int32) then
    (if ¬ (lg_cmp x1 (0 : Int64)) = 0 then
      some true
    else
      (if (lg_cmp x3 (0 : Int64)) = 0 then
        some false
      else
        some true))
  else
  (if x0 = (20 : Int32) then
    (if (lg_cmp x1 (0 : Int64)) = 0 then
      some false
    else
      (if (lg_cmp x3 (0 : Int64)) = 0 then
        some false
      else
        some true))
  else
  (if x0 = (21 : Int32) then
    (if ¬ (lg_cmp x1 (0 : Int64)) = 0 then
      some false
    else
      some true)
  else
  (if x0 = (35 : Int32) then
    (if (lg_cmp x1 x3) = 0 then
      some false
    else
      some true)
  else
  (if x0 = (60 : Int32) then
    (if 0 ≤ (lg_cmp x1 x3) then
      some false
    else
      some true)
  else
  (if x0 = (61 : Int32) then
    (if ¬ (lg_cmp x1 x3) = 0 then
      some false
    else
      some true)
  else
  (if x0 = (62 : Int32) then
    (if (lg_cmp x1 x3) ≤ 0 then
      some false
    else
      some true)
  else
  (if x0 = (128 : Int32) then
    (if 0 < (lg_cmp x1 x3) then
      some false
    else
      some true)
  else
  (if x0 = (129 : Int32) then
    (if (lg_cmp x1 x3) < 0 then
      some false
    else
      some true)
  else
    some false)))))))))
set_option maxRecDepth 100000 in
set_option maxHeartbeats 4000000 in
theorem t_Su_holds {g : GG} {d : Nat} {μ : Mm} (hd0 : 1 ≤ d) : ∀ (x0 : Int32) (x1 : Int64) (x3 : Int64) (r : Bool), Su_holds x0 x1 x3 = some r → Z g d (0, 0) mX7_holds 333 0 0 0 [(0, .int x0), (1, .long x1), (3, .long x3)] [] μ (zF g (some (.int (b2i r)), μ)) := by
  intro x0 x1 x3 r h
  unfold Su_holds at h
  refine z_iload_n dX7_holds_0 0 rfl ?_
  by_cases hc3 : x0 = (19 : Int32)
  · replace h := oT hc3 h
    refine y_lk (19 : Int32) (19) 174 dX7_holds_1 rfl hc3 rfl rfl rfl ?_
    refine z_lload_n dX7_holds_174 1 rfl ?_
    refine z_lconst (M := mX7_holds) (v := 0) dX7_holds_175 rfl ?_
    refine z_lcmp dX7_holds_176 ?_
    refine z_if_ne 186 dX7_holds_177 rfl (fun hc1 => ?_) (fun hc1 => ?_)
    · replace h := oT hc1 h
      refine z_iconst (M := mX7_holds) (v := 1) dX7_holds_186 rfl ?_
      refine z_goto 191 dX7_holds_187 rfl ?_
      cases h
      exact z_zret dX7_holds_191 rfl rfl
    · replace h := oFn hc1 h
      refine z_lload_n dX7_holds_180 2 rfl ?_
      refine z_lconst (M := mX7_holds) (v := 0) dX7_holds_181 rfl ?_
      refine z_lcmp dX7_holds_182 ?_
      refine z_if_eq 190 dX7_holds_183 rfl (fun hc2 => ?_) (fun hc2 => ?_)
      · replace h := oT hc2 h
        refine z_iconst (M := mX7_holds) (v := 0) dX7_holds_190 rfl ?_
        cases h
        exact z_zret dX7_holds_191 rfl rfl
      · replace h := oF hc2 h
        refine z_iconst (M := mX7_holds) (v := 1) dX7_holds_186 rfl ?_
        refine z_goto 191 dX7_holds_187 rfl ?_
        cases h
        exact z_zret dX7_holds_191 rfl rfl
  replace h := oF hc3 h
  by_cases hc6 : x0 = (20 : Int32)
  · replace h := oT hc6 h
    refine y_lk (20 : Int32) (20) 156 dX7_holds_1 rfl hc6 rfl rfl rfl ?_
    refine z_lload_n dX7_holds_156 1 rfl ?_
    refine z_lconst (M := mX7_holds) (v := 0) dX7_holds_157 rfl ?_
    refine z_lcmp dX7_holds_158 ?_
    refine z_if_eq 172 dX7_holds_159 rfl (fun hc4 => ?_) (fun hc4 => ?_)
    · replace h := oT hc4 h
      refine z_iconst (M := mX7_holds) (v := 0) dX7_holds_172 rfl ?_
      cases h
      exact z_zret dX7_holds_173 rfl rfl
    · replace h := oF hc4 h
      refine z_lload_n dX7_holds_162 2 rfl ?_
      refine z_lconst (M := mX7_holds) (v := 0) dX7_holds_163 rfl ?_
      refine z_lcmp dX7_holds_164 ?_
      refine z_if_eq 172 dX7_holds_165 rfl (fun hc5 => ?_) (fun hc5 => ?_)
      · replace h := oT hc5 h
        refine z_iconst (M := mX7_holds) (v := 0) dX7_holds_172 rfl ?_
        cases h
        exact z_zret dX7_holds_173 rfl rfl
      · replace h := oF hc5 h
        refine z_iconst (M := mX7_holds) (v := 1) dX7_holds_168 rfl ?_
        refine z_goto 173 dX7_holds_169 rfl ?_
        cases h
        exact z_zret dX7_holds_173 rfl rfl
  replace h := oF hc6 h
  by_cases hc8 : x0 = (21 : Int32)
  · replace h := oT hc8 h
    refine y_lk (21 : Int32) (21) 192 dX7_holds_1 rfl hc8 rfl rfl rfl ?_
    refine z_lload_n dX7_holds_192 1 rfl ?_
    refine z_lconst (M := mX7_holds) (v := 0) dX7_holds_193 rfl ?_
    refine z_lcmp dX7_holds_194 ?_
    refine z_if_ne 202 dX7_holds_195 rfl (fun hc7 => ?_) (fun hc7 => ?_)
    · replace h := oT hc7 h
      refine z_iconst (M := mX7_holds) (v := 0) dX7_holds_202 rfl ?_
      cases h
      exact z_zret dX7_holds_203 rfl rfl
    · replace h := oFn hc7 h
      refine z_iconst (M := mX7_holds) (v := 1) dX7_holds_198 rfl ?_
      refine z_goto 203 dX7_holds_199 rfl ?_
      cases h
      exact z_zret dX7_holds_203 rfl rfl
  replace h := oF hc8 h
  by_cases hc10 : x0 = (35 : Int32)
  · replace h := oT hc10 h
    refine y_lk (35 : Int32) (35) 144 dX7_holds_1 rfl hc10 rfl rfl rfl ?_
    refine z_lload_n dX7_holds_144 1 rfl ?_
    refine z_lload_n dX7_holds_145 2 rfl ?_
    refine z_lcmp dX7_holds_146 ?_
    refine z_if_eq 154 dX7_holds_147 rfl (fun hc9 => ?_) (fun hc9 => ?_)
    · replace h := oT hc9 h
      refine z_iconst (M := mX7_holds) (v := 0) dX7_holds_154 rfl ?_
      cases h
      exact z_zret dX7_holds_155 rfl rfl
    · replace h := oF hc9 h
      refine z_iconst (M := mX7_holds) (v := 1) dX7_holds_150 rfl ?_
      refine z_goto 155 dX7_holds_151 rfl ?_
      cases h
      exact z_zret dX7_holds_155 rfl rfl
  replace h := oF hc10 h
  by_cases hc12 : x0 = (60 : Int32)
  · replace h := oT hc12 h
    refine y_lk (60 : Int32) (60) 84 dX7_holds_1 rfl hc12 rfl rfl rfl ?_
    refine z_lload_n dX7_holds_84 1 rfl ?_
    refine z_lload_n dX7_holds_85 2 rfl ?_
    refine z_lcmp dX7_holds_86 ?_
    refine z_if_ge 94 dX7_holds_87 rfl (fun hc11 => ?_) (fun hc11 => ?_)
    · replace h := oT hc11 h
      refine z_iconst (M := mX7_holds) (v := 0) dX7_holds_94 rfl ?_
      cases h
      exact z_zret dX7_holds_95 rfl rfl
    · replace h := oF hc11 h
      refine z_iconst (M := mX7_holds) (v := 1) dX7_holds_90 rfl ?_
      refine z_goto 95 dX7_holds_91 rfl ?_
      cases h
      exact z_zret dX7_holds_95 rfl rfl
  replace h := oF hc12 h
  by_cases hc14 : x0 = (61 : Int32)
  · replace h := oT hc14 h
    refine y_lk (61 : Int32) (61) 132 dX7_holds_1 rfl hc14 rfl rfl rfl ?_
    refine z_lload_n dX7_holds_132 1 rfl ?_
    refine z_lload_n dX7_holds_133 2 rfl ?_
    refine z_lcmp dX7_holds_134 ?_
    refine z_if_ne 142 dX7_holds_135 rfl (fun hc13 => ?_) (fun hc13 => ?_)
    · replace h := oT hc13 h
      refine z_iconst (M := mX7_holds) (v := 0) dX7_holds_142 rfl ?_
      cases h
      exact z_zret dX7_holds_143 rfl rfl
    · replace h := oFn hc13 h
      refine z_iconst (M := mX7_holds) (v := 1) dX7_holds_138 rfl ?_
      refine z_goto 143 dX7_holds_139 rfl ?_
      cases h
      exact z_zret dX7_holds_143 rfl rfl
  replace h := oF hc14 h
  by_cases hc16 : x0 = (62 : Int32)
  · replace h := oT hc16 h
    refine y_lk (62 : Int32) (62) 108 dX7_holds_1 rfl hc16 rfl rfl rfl ?_
    refine z_lload_n dX7_holds_108 1 rfl ?_
    refine z_lload_n dX7_holds_109 2 rfl ?_
    refine z_lcmp dX7_holds_110 ?_
    refine z_if_le 118 dX7_holds_111 rfl (fun hc15 => ?_) (fun hc15 => ?_)
    · replace h := oT hc15 h
      refine z_iconst (M := mX7_holds) (v := 0) dX7_holds_118 rfl ?_
      cases h
      exact z_zret dX7_holds_119 rfl rfl
    · replace h := oF hc15 h
      refine z_iconst (M := mX7_holds) (v := 1) dX7_holds_114 rfl ?_
      refine z_goto 119 dX7_holds_115 rfl ?_
      cases h
      exact z_zret dX7_holds_119 rfl rfl
  replace h := oF hc16 h
  by_cases hc18 : x0 = (128 : Int32)
  · replace h := oT hc18 h
    refine y_lk (128 : Int32) (128) 96 dX7_holds_1 rfl hc18 rfl rfl rfl ?_
    refine z_lload_n dX7_holds_96 1 rfl ?_
    refine z_lload_n dX7_holds_97 2 rfl ?_
    refine z_lcmp dX7_holds_98 ?_
    refine z_if_gt 106 dX7_holds_99 rfl (fun hc17 => ?_) (fun hc17 => ?_)
    · replace h := oT hc17 h
      refine z_iconst (M := mX7_holds) (v := 0) dX7_holds_106 rfl ?_
      cases h
      exact z_zret dX7_holds_107 rfl rfl
    · replace h := oF hc17 h
      refine z_iconst (M := mX7_holds) (v := 1) dX7_holds_102 rfl ?_
      refine z_goto 107 dX7_holds_103 rfl ?_
      cases h
      exact z_zret dX7_holds_107 rfl rfl
  replace h := oF hc18 h
  by_cases hc20 : x0 = (129 : Int32)
  · replace h := oT hc20 h
    refine y_lk (129 : Int32) (129) 120 dX7_holds_1 rfl hc20 rfl rfl rfl ?_
    refine z_lload_n dX7_holds_120 1 rfl ?_
    refine z_lload_n dX7_holds_121 2 rfl ?_
    refine z_lcmp dX7_holds_122 ?_
    refine z_if_lt 130 dX7_holds_123 rfl (fun hc19 => ?_) (fun hc19 => ?_)
    · replace h := oT hc19 h
      refine z_iconst (M := mX7_holds) (v := 0) dX7_holds_130 rfl ?_
      cases h
      exact z_zret dX7_holds_131 rfl rfl
    · replace h := oF hc19 h
      refine z_iconst (M := mX7_holds) (v := 1) dX7_holds_126 rfl ?_
      refine z_goto 131 dX7_holds_127 rfl ?_
      cases h
      exact z_zret dX7_holds_131 rfl rfl
  replace h := oF hc20 h
  have zhc3 := i32ne hc3 (z := 19) rfl
  have zhc6 := i32ne hc6 (z := 20) rfl
  have zhc8 := i32ne hc8 (z := 21) rfl
  have zhc10 := i32ne hc10 (z := 35) rfl
  have zhc12 := i32ne hc12 (z := 60) rfl
  have zhc14 := i32ne hc14 (z := 61) rfl
  have zhc16 := i32ne hc16 (z := 62) rfl
  have zhc18 := i32ne hc18 (z := 128) rfl
  have zhc20 := i32ne hc20 (z := 129) rfl
  refine z_lookup 204 dX7_holds_1 rfl (lk_out (List.forall_mem_cons.mpr ⟨Ne.symm zhc3, List.forall_mem_cons.mpr ⟨Ne.symm zhc6, List.forall_mem_cons.mpr ⟨Ne.symm zhc8, List.forall_mem_cons.mpr ⟨Ne.symm zhc10, List.forall_mem_cons.mpr ⟨Ne.symm zhc12, List.forall_mem_cons.mpr ⟨Ne.symm zhc14, List.forall_mem_cons.mpr ⟨Ne.symm zhc16, List.forall_mem_cons.mpr ⟨Ne.symm zhc18, List.forall_mem_cons.mpr ⟨Ne.symm zhc20, fun _ h => absurd h List.not_mem_nil⟩⟩⟩⟩⟩⟩⟩⟩⟩)) rfl ?_
  refine z_iconst (M := mX7_holds) (v := 0) dX7_holds_204 rfl ?_
  cases h
  exact z_zret dX7_holds_205 rfl rfl
theorem ct_Su_holds {g : GG} {d : Nat} {x0 : Int32} {x1 : Int64} {x3 : Int64} {μ : Mm} {r : Bool} (hd0 : 1 ≤ d)  (h : Su_holds x0 x1 x3 = some r) : Ct g d mX7_holds [.int x0, .long x1, .long x3] μ (some (.int (b2i r)), μ) := y_entry in_X7_holds (Nat.le_of_ble_eq_true rfl) rfl (t_Su_holds hd0 x0 x1 x3 r h)
-- FuseMinutes$Sums.isOut(J)Z
theorem dX7_isOut_0 : decode cX7_isOut 0 = .ok (.lload_n 1, 1) := by decide +kernel
theorem dX7_isOut_1 : decode cX7_isOut 1 = .ok (.lconst 0, 1) := by decide +kernel
theorem dX7_isOut_2 : decode cX7_isOut 2 = .ok (.lcmp, 1) := by decide +kernel
theorem dX7_isOut_3 : decode cX7_isOut 3 = .ok (.ifCond .lt 27, 3) := by decide +kernel
theorem dX7_isOut_6 : decode cX7_isOut 6 = .ok (.lload_n 1, 1) := by decide +kernel
theorem dX7_isOut_7 : decode cX7_isOut 7 = .ok (.aload_n 0, 1) := by decide +kernel
theorem dX7_isOut_8 : decode cX7_isOut 8 = .ok (.getfield 15, 3) := by decide +kernel
theorem dX7_isOut_11 : decode cX7_isOut 11 = .ok (.getfield 19, 3) := by decide +kernel
theorem dX7_isOut_14 : decode cX7_isOut 14 = .ok (.getfield 106, 3) := by decide +kernel
theorem dX7_isOut_17 : decode cX7_isOut 17 = .ok (.i2l, 1) := by decide +kernel
theorem dX7_isOut_18 : decode cX7_isOut 18 = .ok (.lcmp, 1) := by decide +kernel
theorem dX7_isOut_19 : decode cX7_isOut 19 = .ok (.ifCond .ge 11, 3) := by decide +kernel
theorem dX7_isOut_22 : decode cX7_isOut 22 = .ok (.lload_n 1, 1) := by decide +kernel
theorem dX7_isOut_23 : decode cX7_isOut 23 = .ok (.ldc2_w 109, 3) := by decide +kernel
theorem dX7_isOut_26 : decode cX7_isOut 26 = .ok (.lcmp, 1) := by decide +kernel
theorem dX7_isOut_27 : decode cX7_isOut 27 = .ok (.ifCond .lt 5, 3) := by decide +kernel
theorem dX7_isOut_30 : decode cX7_isOut 30 = .ok (.iconst 0, 1) := by decide +kernel
theorem dX7_isOut_31 : decode cX7_isOut 31 = .ok (.ireturn, 1) := by decide +kernel
theorem dX7_isOut_32 : decode cX7_isOut 32 = .ok (.aload_n 0, 1) := by decide +kernel
theorem dX7_isOut_33 : decode cX7_isOut 33 = .ok (.getfield 15, 3) := by decide +kernel
theorem dX7_isOut_36 : decode cX7_isOut 36 = .ok (.getfield 19, 3) := by decide +kernel
theorem dX7_isOut_39 : decode cX7_isOut 39 = .ok (.getfield 81, 3) := by decide +kernel
theorem dX7_isOut_42 : decode cX7_isOut 42 = .ok (.lload_n 1, 1) := by decide +kernel
theorem dX7_isOut_43 : decode cX7_isOut 43 = .ok (.l2i, 1) := by decide +kernel
theorem dX7_isOut_44 : decode cX7_isOut 44 = .ok (.iaload, 1) := by decide +kernel
theorem dX7_isOut_45 : decode cX7_isOut 45 = .ok (.ifCond .ne 7, 3) := by decide +kernel
theorem dX7_isOut_48 : decode cX7_isOut 48 = .ok (.iconst 1, 1) := by decide +kernel
theorem dX7_isOut_49 : decode cX7_isOut 49 = .ok (.goto 4, 3) := by decide +kernel
theorem dX7_isOut_52 : decode cX7_isOut 52 = .ok (.iconst 0, 1) := by decide +kernel
theorem dX7_isOut_53 : decode cX7_isOut 53 = .ok (.ireturn, 1) := by decide +kernel
def Su_isOut (ν : Nm) (x1 : Int64) : Option Bool :=
  (if (lg_cmp x1 (0 : Int64)) < 0 then
    some false
  else
    (if 0 ≤ (lg_cmp x1 (gi ν 2 0).toInt64) then
      some false
    else
      (if (lg_cmp x1 (4 : Int64)) < 0 then
        if inb x1.toInt32 4 then
        (if ¬ (gi ν 3 x1.toInt32.toNatClampNeg) = 0 then
          some false
        else
          some true)
        else none
      else
        some false)))
set_option maxRecDepth 100000 in
set_option maxHeartbeats 4000000 in
theorem t_Su_isOut {g : GG} {d : Nat} {ν : Nm} (hd0 : 1 ≤ d) : ∀ (x1 : Int64) (r : Bool), Su_isOut ν x1 = some r → Z g d (0, 0) mX7_isOut 333 0 0 0 [(0, .ref 274), (1, .long x1)] [] (zem ν) (zF g (some (.int (b2i r)), zem ν)) := by
  intro x1 r h
  unfold Su_isOut at h
  refine z_lload_n dX7_isOut_0 1 rfl ?_
  refine z_lconst (M := mX7_isOut) (v := 0) dX7_isOut_1 rfl ?_
  refine z_lcmp dX7_isOut_2 ?_
  refine z_if_lt 30 dX7_isOut_3 rfl (fun hc1 => ?_) (fun hc1 => ?_)
  · replace h := oT hc1 h
    refine z_iconst (M := mX7_isOut) (v := 0) dX7_isOut_30 rfl ?_
    cases h
    exact z_zret dX7_isOut_31 rfl rfl
  · replace h := oF hc1 h
    refine z_lload_n dX7_isOut_6 1 rfl ?_
    refine z_aload_n dX7_isOut_7 0 rfl ?_
    refine y_getR (M := mX7_isOut) (r := 1) dX7_isOut_8 zk_274 flRX7_15 fr_6_0.1 (fr_6_0.2 _) ?_
    refine y_getR (M := mX7_isOut) (r := 2) dX7_isOut_11 zk_1 flRX7_19 fr_5_0.1 (fr_5_0.2 _) ?_
    refine y_getI dX7_isOut_14 zk_2 flRX7_106 ?_
    refine z_i2l dX7_isOut_17 ?_
    refine z_lcmp dX7_isOut_18 ?_
    refine z_if_ge 30 dX7_isOut_19 rfl (fun hc2 => ?_) (fun hc2 => ?_)
    · replace h := oT hc2 h
      refine z_iconst (M := mX7_isOut) (v := 0) dX7_isOut_30 rfl ?_
      cases h
      exact z_zret dX7_isOut_31 rfl rfl
    · replace h := oF hc2 h
      refine z_lload_n dX7_isOut_22 1 rfl ?_
      refine z_ldc2 dX7_isOut_23 csRX7_109 ?_
      refine z_lcmp dX7_isOut_26 ?_
      refine z_if_lt 32 dX7_isOut_27 rfl (fun hc3 => ?_) (fun hc3 => ?_)
      · replace h := oT hc3 h
        refine z_aload_n dX7_isOut_32 0 rfl ?_
        refine y_getR (M := mX7_isOut) (r := 1) dX7_isOut_33 zk_274 flRX7_15 fr_6_0.1 (fr_6_0.2 _) ?_
        refine y_getR (M := mX7_isOut) (r := 2) dX7_isOut_36 zk_1 flRX7_19 fr_5_0.1 (fr_5_0.2 _) ?_
        refine y_getR (M := mX7_isOut) (r := 3) dX7_isOut_39 zk_2 flRX7_81 fr_1_4.1 (fr_1_4.2 _) ?_
        refine z_lload_n dX7_isOut_42 1 rfl ?_
        refine z_l2i dX7_isOut_43 ?_
        obtain ⟨hi4, h⟩ := oif h
        refine y_iald (M := mX7_isOut) (jj := x1.toInt32.toNatClampNeg) dX7_isOut_44 zk_3 hi4 rfl ?_
        refine z_if_ne 52 dX7_isOut_45 rfl (fun hc5 => ?_) (fun hc5 => ?_)
        · replace h := oT hc5 h
          refine z_iconst (M := mX7_isOut) (v := 0) dX7_isOut_52 rfl ?_
          cases h
          exact z_zret dX7_isOut_53 rfl rfl
        · replace h := oFn hc5 h
          refine z_iconst (M := mX7_isOut) (v := 1) dX7_isOut_48 rfl ?_
          refine z_goto 53 dX7_isOut_49 rfl ?_
          cases h
          exact z_zret dX7_isOut_53 rfl rfl
      · replace h := oF hc3 h
        refine z_iconst (M := mX7_isOut) (v := 0) dX7_isOut_30 rfl ?_
        cases h
        exact z_zret dX7_isOut_31 rfl rfl
theorem ct_Su_isOut {g : GG} {d : Nat} {x1 : Int64} {ν : Nm} {r : Bool} (hd0 : 1 ≤ d)  (h : Su_isOut ν x1 = some r) : Ct g d mX7_isOut [.ref 274, .long x1] (zem ν) (some (.int (b2i r)), zem ν) := y_entry in_X7_isOut (Nat.le_of_ble_eq_true rfl) rfl (t_Su_isOut hd0 x1 r h)
-- FuseMinutes$Sums.result(IJJJ)J
theorem dX7_result_0 : decode cX7_result 0 = .ok (.iload_n 1, 1) := by decide +kernel
theorem dX7_result_1 : decode cX7_result 1 = .ok (.lookupswitch 148 #[(13, 78), (14, 89), (15, 103), (42, 127), (43, 117), (45, 122), (47, 132), (130, 75)], 75) := by decide +kernel
theorem dX7_result_76 : decode cX7_result 76 = .ok (.lload_n 2, 1) := by decide +kernel
theorem dX7_result_77 : decode cX7_result 77 = .ok (.lneg, 1) := by decide +kernel
theorem dX7_result_78 : decode cX7_result 78 = .ok (.lreturn, 1) := by decide +kernel
theorem dX7_result_79 : decode cX7_result 79 = .ok (.lload_n 2, 1) := by decide +kernel
theorem dX7_result_80 : decode cX7_result 80 = .ok (.invokestatic 94, 3) := by decide +kernel
theorem dX7_result_83 : decode cX7_result 83 = .ok (.lload_n 2, 1) := by decide +kernel
theorem dX7_result_84 : decode cX7_result 84 = .ok (.invokestatic 94, 3) := by decide +kernel
theorem dX7_result_87 : decode cX7_result 87 = .ok (.lneg, 1) := by decide +kernel
theorem dX7_result_88 : decode cX7_result 88 = .ok (.land, 1) := by decide +kernel
theorem dX7_result_89 : decode cX7_result 89 = .ok (.lreturn, 1) := by decide +kernel
theorem dX7_result_90 : decode cX7_result 90 = .ok (.aload_n 0, 1) := by decide +kernel
theorem dX7_result_91 : decode cX7_result 91 = .ok (.lload_n 2, 1) := by decide +kernel
theorem dX7_result_92 : decode cX7_result 92 = .ok (.invokevirtual 98, 3) := by decide +kernel
theorem dX7_result_95 : decode cX7_result 95 = .ok (.ifCond .eq 7, 3) := by decide +kernel
theorem dX7_result_98 : decode cX7_result 98 = .ok (.lconst 1, 1) := by decide +kernel
theorem dX7_result_99 : decode cX7_result 99 = .ok (.goto 4, 3) := by decide +kernel
theorem dX7_result_102 : decode cX7_result 102 = .ok (.lconst 0, 1) := by decide +kernel
theorem dX7_result_103 : decode cX7_result 103 = .ok (.lreturn, 1) := by decide +kernel
theorem dX7_result_104 : decode cX7_result 104 = .ok (.lload_n 2, 1) := by decide +kernel
theorem dX7_result_105 : decode cX7_result 105 = .ok (.lconst 0, 1) := by decide +kernel
theorem dX7_result_106 : decode cX7_result 106 = .ok (.lcmp, 1) := by decide +kernel
theorem dX7_result_107 : decode cX7_result 107 = .ok (.ifCond .eq 8, 3) := by decide +kernel
theorem dX7_result_110 : decode cX7_result 110 = .ok (.lload 4, 2) := by decide +kernel
theorem dX7_result_112 : decode cX7_result 112 = .ok (.goto 5, 3) := by decide +kernel
theorem dX7_result_115 : decode cX7_result 115 = .ok (.lload 6, 2) := by decide +kernel
theorem dX7_result_117 : decode cX7_result 117 = .ok (.lreturn, 1) := by decide +kernel
theorem dX7_result_118 : decode cX7_result 118 = .ok (.lload_n 2, 1) := by decide +kernel
theorem dX7_result_119 : decode cX7_result 119 = .ok (.lload 4, 2) := by decide +kernel
theorem dX7_result_121 : decode cX7_result 121 = .ok (.ladd, 1) := by decide +kernel
theorem dX7_result_122 : decode cX7_result 122 = .ok (.lreturn, 1) := by decide +kernel
theorem dX7_result_123 : decode cX7_result 123 = .ok (.lload_n 2, 1) := by decide +kernel
theorem dX7_result_124 : decode cX7_result 124 = .ok (.lload 4, 2) := by decide +kernel
theorem dX7_result_126 : decode cX7_result 126 = .ok (.lsub, 1) := by decide +kernel
theorem dX7_result_127 : decode cX7_result 127 = .ok (.lreturn, 1) := by decide +kernel
theorem dX7_result_128 : decode cX7_result 128 = .ok (.lload_n 2, 1) := by decide +kernel
theorem dX7_result_129 : decode cX7_result 129 = .ok (.lload 4, 2) := by decide +kernel
theorem dX7_result_131 : decode cX7_result 131 = .ok (.lmul, 1) := by decide +kernel
theorem dX7_result_132 : decode cX7_result 132 = .ok (.lreturn, 1) := by decide +kernel
theorem dX7_result_133 : decode cX7_result 133 = .ok (.lload 4, 2) := by decide +kernel
theorem dX7_result_135 : decode cX7_result 135 = .ok (.lconst 0, 1) := by decide +kernel
theorem dX7_result_136 : decode cX7_result 136 = .ok (.lcmp, 1) := by decide +kernel
theorem dX7_result_137 : decode cX7_result 137 = .ok (.ifCond .ne 7, 3) := by decide +kernel
theorem dX7_result_140 : decode cX7_result 140 = .ok (.lconst 0, 1) := by decide +kernel
theorem dX7_result_141 : decode cX7_result 141 = .ok (.goto 7, 3) := by decide +kernel
theorem dX7_result_144 : decode cX7_result 144 = .ok (.lload_n 2, 1) := by decide +kernel
theorem dX7_result_145 : decode cX7_result 145 = .ok (.lload 4, 2) := by decide +kernel
theorem dX7_result_147 : decode cX7_result 147 = .ok (.ldiv, 1) := by decide +kernel
theorem dX7_result_148 : decode cX7_result 148 = .ok (.lreturn, 1) := by decide +kernel
theorem dX7_result_149 : decode cX7_result 149 = .ok (.iload_n 1, 1) := by decide +kernel
theorem dX7_result_150 : decode cX7_result 150 = .ok (.lload_n 2, 1) := by decide +kernel
theorem dX7_result_151 : decode cX7_result 151 = .ok (.lload 4, 2) := by decide +kernel
theorem dX7_result_153 : decode cX7_result 153 = .ok (.invokestatic 102, 3) := by decide +kernel
theorem dX7_result_156 : decode cX7_result 156 = .ok (.ifCond .eq 7, 3) := by decide +kernel
theorem dX7_result_159 : decode cX7_result 159 = .ok (.lconst 1, 1) := by decide +kernel
theorem dX7_result_160 : decode cX7_result 160 = .ok (.goto 4, 3) := by decide +kernel
theorem dX7_result_163 : decode cX7_result 163 = .ok (.lconst 0, 1) := by decide +kernel
theorem dX7_result_164 : decode cX7_result 164 = .ok (.lreturn, 1) := by decide +kernel
def Su_result (ν : Nm) (x1 : Int32) (x2 : Int64) (x4 : Int64) (x6 : Int64) : Option Int64 :=
  (if x1 = (13 : Int32) then
    some ((labs x2) &&& (-(labs x2)))
  else
  (if x1 = (14 : Int32) then
    (Su_isOut ν x2).bind fun v2 =>
    (if (b2i v2) = 0 then
      some (0 : Int64)
    else
      some (1 : Int64))
  else
  (if x1 = (15 : Int32) then
    (if (lg_cmp x2 (0 : Int64)) = 0 then
      some x6
    else
      some x4)
  else
  (if x1 = (42 : Int32) then
    some (x2 * x4)
  else
  (if x1 = (43 : Int32) then
    some (x2 + x4)
  else
  (if x1 = (45 : Int32) then
    some (x2 - x4)
  else
  (if x1 = (47 : Int32) then
    (if ¬ (lg_cmp x4 (0 : Int64)) = 0 then
      if x4 = 0 then none else
      some (x2 / x4)
    else
      some (0 : Int64))
  else
  (if x1 = (130 : Int32) then
    some (-x2)
  else
    (Su_holds x1 x2 x4).bind fun v14 =>
    (if (b2i v14) = 0 then
      some (0 : Int64)
    else
      some (1 : Int64))))))))))
set_option maxRecDepth 100000 in
set_option maxHeartbeats 4000000 in
theorem t_Su_result {g : GG} {d : Nat} {ν : Nm} (hd0 : 2 ≤ d) : ∀ (x1 : Int32) (x2 : Int64) (x4 : Int64) (x6 : Int64) (r : Int64), Su_result ν x1 x2 x4 x6 = some r → Z g d (0, 0) mX7_result 333 0 0 0 [(0, .ref 274), (1, .int x1), (2, .long x2), (4, .long x4), (6, .long x6)] [] (zem ν) (zF g (some (.long r), zem ν)) := by
  intro x1 x2 x4 x6 r h
  unfold Su_result at h
  refine z_iload_n dX7_result_0 1 rfl ?_
  by_cases hc1 : x1 = (13 : Int32)
  · replace h := oT hc1 h
    refine y_lk (13 : Int32) (13) 79 dX7_result_1 rfl hc1 rfl rfl rfl ?_
    refine z_lload_n dX7_result_79 2 rfl ?_
    refine y_labs dX7_result_80 mlRX7_94 mw_labs (Nat.le_trans (Nat.le_of_ble_eq_true rfl) hd0) (Nat.le_of_ble_eq_true rfl) ?_
    refine z_lload_n dX7_result_83 2 rfl ?_
    refine y_labs dX7_result_84 mlRX7_94 mw_labs (Nat.le_trans (Nat.le_of_ble_eq_true rfl) hd0) (Nat.le_of_ble_eq_true rfl) ?_
    refine z_lneg dX7_result_87 ?_
    refine z_land dX7_result_88 ?_
    cases h
    exact z_lret dX7_result_89 rfl
  replace h := oF hc1 h
  by_cases hc4 : x1 = (14 : Int32)
  · replace h := oT hc4 h
    refine y_lk (14 : Int32) (14) 90 dX7_result_1 rfl hc4 rfl rfl rfl ?_
    refine z_aload_n dX7_result_90 0 rfl ?_
    refine z_lload_n dX7_result_91 2 rfl ?_
    obtain ⟨v2, he2, h⟩ := obind h
    refine y_Vi (M := mX7_result) (Y := mX7_isOut) (d2 := d - 1) (As := [.long x2]) (st := []) dX7_result_92 mlRX7_98 cv_X7_isOut zk_274 (ct_Su_isOut (dle (Nat.le_of_ble_eq_true rfl) hd0) he2) (dps (Nat.le_of_ble_eq_true rfl) hd0) rfl rfl (Nat.le_of_ble_eq_true rfl) ?_
    refine z_if_eq 102 dX7_result_95 rfl (fun hc3 => ?_) (fun hc3 => ?_)
    · replace h := oT hc3 h
      refine z_lconst (M := mX7_result) (v := 0) dX7_result_102 rfl ?_
      cases h
      exact z_lret dX7_result_103 rfl
    · replace h := oF hc3 h
      refine z_lconst (M := mX7_result) (v := 1) dX7_result_98 rfl ?_
      refine z_goto 103 dX7_result_99 rfl ?_
      cases h
      exact z_lret dX7_result_103 rfl
  replace h := oF hc4 h
  by_cases hc6 : x1 = (15 : Int32)
  · replace h := oT hc6 h
    refine y_lk (15 : Int32) (15) 104 dX7_result_1 rfl hc6 rfl rfl rfl ?_
    refine z_lload_n dX7_result_104 2 rfl ?_
    refine z_lconst (M := mX7_result) (v := 0) dX7_result_105 rfl ?_
    refine z_lcmp dX7_result_106 ?_
    refine z_if_eq 115 dX7_result_107 rfl (fun hc5 => ?_) (fun hc5 => ?_)
    · replace h := oT hc5 h
      refine z_lload dX7_result_115 4 rfl ?_
      cases h
      exact z_lret dX7_result_117 rfl
    · replace h := oF hc5 h
      refine z_lload dX7_result_110 3 rfl ?_
      refine z_goto 117 dX7_result_112 rfl ?_
      cases h
      exact z_lret dX7_result_117 rfl
  replace h := oF hc6 h
  by_cases hc7 : x1 = (42 : Int32)
  · replace h := oT hc7 h
    refine y_lk (42 : Int32) (42) 128 dX7_result_1 rfl hc7 rfl rfl rfl ?_
    refine z_lload_n dX7_result_128 2 rfl ?_
    refine z_lload dX7_result_129 3 rfl ?_
    refine z_lmul dX7_result_131 ?_
    cases h
    exact z_lret dX7_result_132 rfl
  replace h := oF hc7 h
  by_cases hc8 : x1 = (43 : Int32)
  · replace h := oT hc8 h
    refine y_lk (43 : Int32) (43) 118 dX7_result_1 rfl hc8 rfl rfl rfl ?_
    refine z_lload_n dX7_result_118 2 rfl ?_
    refine z_lload dX7_result_119 3 rfl ?_
    refine z_ladd dX7_result_121 ?_
    cases h
    exact z_lret dX7_result_122 rfl
  replace h := oF hc8 h
  by_cases hc9 : x1 = (45 : Int32)
  · replace h := oT hc9 h
    refine y_lk (45 : Int32) (45) 123 dX7_result_1 rfl hc9 rfl rfl rfl ?_
    refine z_lload_n dX7_result_123 2 rfl ?_
    refine z_lload dX7_result_124 3 rfl ?_
    refine z_lsub dX7_result_126 ?_
    cases h
    exact z_lret dX7_result_127 rfl
  replace h := oF hc9 h
  by_cases hc12 : x1 = (47 : Int32)
  · replace h := oT hc12 h
    refine y_lk (47 : Int32) (47) 133 dX7_result_1 rfl hc12 rfl rfl rfl ?_
    refine z_lload dX7_result_133 3 rfl ?_
    refine z_lconst (M := mX7_result) (v := 0) dX7_result_135 rfl ?_
    refine z_lcmp dX7_result_136 ?_
    refine z_if_ne 144 dX7_result_137 rfl (fun hc10 => ?_) (fun hc10 => ?_)
    · replace h := oT hc10 h
      refine z_lload_n dX7_result_144 2 rfl ?_
      refine z_lload dX7_result_145 3 rfl ?_
      obtain ⟨hz11, h⟩ := oifn h
      refine z_ldiv dX7_result_147 hz11 ?_
      cases h
      exact z_lret dX7_result_148 rfl
    · replace h := oFn hc10 h
      refine z_lconst (M := mX7_result) (v := 0) dX7_result_140 rfl ?_
      refine z_goto 148 dX7_result_141 rfl ?_
      cases h
      exact z_lret dX7_result_148 rfl
  replace h := oF hc12 h
  by_cases hc13 : x1 = (130 : Int32)
  · replace h := oT hc13 h
    refine y_lk (130 : Int32) (130) 76 dX7_result_1 rfl hc13 rfl rfl rfl ?_
    refine z_lload_n dX7_result_76 2 rfl ?_
    refine z_lneg dX7_result_77 ?_
    cases h
    exact z_lret dX7_result_78 rfl
  replace h := oF hc13 h
  have zhc1 := i32ne hc1 (z := 13) rfl
  have zhc4 := i32ne hc4 (z := 14) rfl
  have zhc6 := i32ne hc6 (z := 15) rfl
  have zhc7 := i32ne hc7 (z := 42) rfl
  have zhc8 := i32ne hc8 (z := 43) rfl
  have zhc9 := i32ne hc9 (z := 45) rfl
  have zhc12 := i32ne hc12 (z := 47) rfl
  have zhc13 := i32ne hc13 (z := 130) rfl
  refine z_lookup 149 dX7_result_1 rfl (lk_out (List.forall_mem_cons.mpr ⟨Ne.symm zhc1, List.forall_mem_cons.mpr ⟨Ne.symm zhc4, List.forall_mem_cons.mpr ⟨Ne.symm zhc6, List.forall_mem_cons.mpr ⟨Ne.symm zhc7, List.forall_mem_cons.mpr ⟨Ne.symm zhc8, List.forall_mem_cons.mpr ⟨Ne.symm zhc9, List.forall_mem_cons.mpr ⟨Ne.symm zhc12, List.forall_mem_cons.mpr ⟨Ne.symm zhc13, fun _ h => absurd h List.not_mem_nil⟩⟩⟩⟩⟩⟩⟩⟩)) rfl ?_
  refine z_iload_n dX7_result_149 1 rfl ?_
  refine z_lload_n dX7_result_150 2 rfl ?_
  refine z_lload dX7_result_151 3 rfl ?_
  obtain ⟨v14, he14, h⟩ := obind h
  refine y_Si (M := mX7_result) (Y := mX7_holds) (d2 := d - 1) (As := [.int x1, .long x2, .long x4]) (st := []) dX7_result_153 mlRX7_102 cv_X7_holds (ct_Su_holds (dle (Nat.le_of_ble_eq_true rfl) hd0) he14) (dps (Nat.le_of_ble_eq_true rfl) hd0) rfl rfl (Nat.le_of_ble_eq_true rfl) ?_
  refine z_if_eq 163 dX7_result_156 rfl (fun hc15 => ?_) (fun hc15 => ?_)
  · replace h := oT hc15 h
    refine z_lconst (M := mX7_result) (v := 0) dX7_result_163 rfl ?_
    cases h
    exact z_lret dX7_result_164 rfl
  · replace h := oF hc15 h
    refine z_lconst (M := mX7_result) (v := 1) dX7_result_159 rfl ?_
    refine z_goto 164 dX7_result_160 rfl ?_
    cases h
    exact z_lret dX7_result_164 rfl
theorem ct_Su_result {g : GG} {d : Nat} {x1 : Int32} {x2 : Int64} {x4 : Int64} {x6 : Int64} {ν : Nm} {r : Int64} (hd0 : 2 ≤ d)  (h : Su_result ν x1 x2 x4 x6 = some r) : Ct g d mX7_result [.ref 274, .int x1, .long x2, .long x4, .long x6] (zem ν) (some (.long r), zem ν) := y_entry in_X7_result (Nat.le_of_ble_eq_true rfl) rfl (t_Su_result hd0 x1 x2 x4 x6 r h)
-- FuseMinutes$Sums.takes(I)I
theorem dX7_takes_0 : decode cX7_takes 0 = .ok (.iload_n 0, 1) := by decide +kernel
theorem dX7_takes_1 : decode cX7_takes 1 = .ok (.ineg, 1) := by decide +kernel
theorem dX7_takes_2 : decode cX7_takes 2 = .ok (.istore_n 1, 1) := by decide +kernel
theorem dX7_takes_3 : decode cX7_takes 3 = .ok (.iload_n 1, 1) := by decide +kernel
theorem dX7_takes_4 : decode cX7_takes 4 = .ok (.ifCond .le 25, 3) := by decide +kernel
theorem dX7_takes_7 : decode cX7_takes 7 = .ok (.iload_n 1, 1) := by decide +kernel
theorem dX7_takes_8 : decode cX7_takes 8 = .ok (.iconst 4, 1) := by decide +kernel
theorem dX7_takes_9 : decode cX7_takes 9 = .ok (.if_icmp .eq 20, 3) := by decide +kernel
theorem dX7_takes_12 : decode cX7_takes 12 = .ok (.iload_n 1, 1) := by decide +kernel
theorem dX7_takes_13 : decode cX7_takes 13 = .ok (.iconst 5, 1) := by decide +kernel
theorem dX7_takes_14 : decode cX7_takes 14 = .ok (.if_icmp .eq 15, 3) := by decide +kernel
theorem dX7_takes_17 : decode cX7_takes 17 = .ok (.iload_n 1, 1) := by decide +kernel
theorem dX7_takes_18 : decode cX7_takes 18 = .ok (.bipush 22, 2) := by decide +kernel
theorem dX7_takes_20 : decode cX7_takes 20 = .ok (.if_icmp .lt 11, 3) := by decide +kernel
theorem dX7_takes_23 : decode cX7_takes 23 = .ok (.iload_n 1, 1) := by decide +kernel
theorem dX7_takes_24 : decode cX7_takes 24 = .ok (.bipush 26, 2) := by decide +kernel
theorem dX7_takes_26 : decode cX7_takes 26 = .ok (.if_icmp .gt 5, 3) := by decide +kernel
theorem dX7_takes_29 : decode cX7_takes 29 = .ok (.iconst 0, 1) := by decide +kernel
theorem dX7_takes_30 : decode cX7_takes 30 = .ok (.ireturn, 1) := by decide +kernel
theorem dX7_takes_31 : decode cX7_takes 31 = .ok (.iload_n 1, 1) := by decide +kernel
theorem dX7_takes_32 : decode cX7_takes 32 = .ok (.sipush 130, 3) := by decide +kernel
theorem dX7_takes_35 : decode cX7_takes 35 = .ok (.if_icmp .eq 21, 3) := by decide +kernel
theorem dX7_takes_38 : decode cX7_takes 38 = .ok (.iload_n 1, 1) := by decide +kernel
theorem dX7_takes_39 : decode cX7_takes 39 = .ok (.bipush 13, 2) := by decide +kernel
theorem dX7_takes_41 : decode cX7_takes 41 = .ok (.if_icmp .eq 15, 3) := by decide +kernel
theorem dX7_takes_44 : decode cX7_takes 44 = .ok (.iload_n 1, 1) := by decide +kernel
theorem dX7_takes_45 : decode cX7_takes 45 = .ok (.bipush 14, 2) := by decide +kernel
theorem dX7_takes_47 : decode cX7_takes 47 = .ok (.if_icmp .eq 9, 3) := by decide +kernel
theorem dX7_takes_50 : decode cX7_takes 50 = .ok (.iload_n 1, 1) := by decide +kernel
theorem dX7_takes_51 : decode cX7_takes 51 = .ok (.bipush 21, 2) := by decide +kernel
theorem dX7_takes_53 : decode cX7_takes 53 = .ok (.if_icmp .ne 5, 3) := by decide +kernel
theorem dX7_takes_56 : decode cX7_takes 56 = .ok (.iconst 1, 1) := by decide +kernel
theorem dX7_takes_57 : decode cX7_takes 57 = .ok (.ireturn, 1) := by decide +kernel
theorem dX7_takes_58 : decode cX7_takes 58 = .ok (.iload_n 1, 1) := by decide +kernel
theorem dX7_takes_59 : decode cX7_takes 59 = .ok (.bipush 15, 2) := by decide +kernel
theorem dX7_takes_61 : decode cX7_takes 61 = .ok (.if_icmp .ne 7, 3) := by decide +kernel
theorem dX7_takes_64 : decode cX7_takes 64 = .ok (.iconst 3, 1) := by decide +kernel
theorem dX7_takes_65 : decode cX7_takes 65 = .ok (.goto 4, 3) := by decide +kernel
theorem dX7_takes_68 : decode cX7_takes 68 = .ok (.iconst 2, 1) := by decide +kernel
theorem dX7_takes_69 : decode cX7_takes 69 = .ok (.ireturn, 1) := by decide +kernel
def Su_takes_31 (x1 : Int32) : Option Int32 :=
  (if x1 = (130 : Int32) then
    some (1 : Int32)
  else
    (if x1 = (13 : Int32) then
      some (1 : Int32)
    else
      (if x1 = (14 : Int32) then
        some (1 : Int32)
      else
        (if ¬ x1 = (21 : Int32) then
          (if ¬ x1 = (15 : Int32) then
            some (2 : Int32)
          else
            some (3 : Int32))
        else
          some (1 : Int32)))))
set_option maxRecDepth 100000 in
set_option maxHeartbeats 4000000 in
theorem t_Su_takes_31 {g : GG} {d : Nat} {μ : Mm} (hd0 : 1 ≤ d) : ∀ (x1 : Int32) (r : Int32), Su_takes_31 x1 = some r → Z g d (0, 0) mX7_takes 333 0 0 31 [(1, .int x1)] [] μ (zF g (some (.int r), μ)) := by
  intro x1 r h
  unfold Su_takes_31 at h
  refine z_iload_n dX7_takes_31 0 rfl ?_
  refine z_sipush (M := mX7_takes) (v := 130) dX7_takes_32 rfl ?_
  refine z_icmp_eq 56 dX7_takes_35 rfl (fun hc1 => ?_) (fun hc1 => ?_)
  · replace h := oT hc1 h
    refine z_iconst (M := mX7_takes) (v := 1) dX7_takes_56 rfl ?_
    cases h
    exact z_iret dX7_takes_57 rfl
  · replace h := oF hc1 h
    refine z_iload_n dX7_takes_38 0 rfl ?_
    refine z_bipush (M := mX7_takes) (v := 13) dX7_takes_39 rfl ?_
    refine z_icmp_eq 56 dX7_takes_41 rfl (fun hc2 => ?_) (fun hc2 => ?_)
    · replace h := oT hc2 h
      refine z_iconst (M := mX7_takes) (v := 1) dX7_takes_56 rfl ?_
      cases h
      exact z_iret dX7_takes_57 rfl
    · replace h := oF hc2 h
      refine z_iload_n dX7_takes_44 0 rfl ?_
      refine z_bipush (M := mX7_takes) (v := 14) dX7_takes_45 rfl ?_
      refine z_icmp_eq 56 dX7_takes_47 rfl (fun hc3 => ?_) (fun hc3 => ?_)
      · replace h := oT hc3 h
        refine z_iconst (M := mX7_takes) (v := 1) dX7_takes_56 rfl ?_
        cases h
        exact z_iret dX7_takes_57 rfl
      · replace h := oF hc3 h
        refine z_iload_n dX7_takes_50 0 rfl ?_
        refine z_bipush (M := mX7_takes) (v := 21) dX7_takes_51 rfl ?_
        refine z_icmp_ne 58 dX7_takes_53 rfl (fun hc4 => ?_) (fun hc4 => ?_)
        · replace h := oT hc4 h
          refine z_iload_n dX7_takes_58 0 rfl ?_
          refine z_bipush (M := mX7_takes) (v := 15) dX7_takes_59 rfl ?_
          refine z_icmp_ne 68 dX7_takes_61 rfl (fun hc5 => ?_) (fun hc5 => ?_)
          · replace h := oT hc5 h
            refine z_iconst (M := mX7_takes) (v := 2) dX7_takes_68 rfl ?_
            cases h
            exact z_iret dX7_takes_69 rfl
          · replace h := oFn hc5 h
            refine z_iconst (M := mX7_takes) (v := 3) dX7_takes_64 rfl ?_
            refine z_goto 69 dX7_takes_65 rfl ?_
            cases h
            exact z_iret dX7_takes_69 rfl
        · replace h := oFn hc4 h
          refine z_iconst (M := mX7_takes) (v := 1) dX7_takes_56 rfl ?_
          cases h
          exact z_iret dX7_takes_57 rfl
def Su_takes (x0 : Int32) : Option Int32 :=
  (if (-x0) ≤ 0 then
    some (0 : Int32)
  else
    (if (-x0) = (4 : Int32) then
      some (0 : Int32)
    else
      (if (-x0) = (5 : Int32) then
        some (0 : Int32)
      else
        (if (-x0) < (22 : Int32) then
          Su_takes_31 (-x0)
        else
          (if (26 : Int32) < (-x0) then
            Su_takes_31 (-x0)
          else
            some (0 : Int32))))))
set_option maxRecDepth 100000 in
set_option maxHeartbeats 4000000 in
theorem t_Su_takes {g : GG} {d : Nat} {μ : Mm} (hd0 : 1 ≤ d) : ∀ (x0 : Int32) (r : Int32), Su_takes x0 = some r → Z g d (0, 0) mX7_takes 333 0 0 0 [(0, .int x0)] [] μ (zF g (some (.int r), μ)) := by
  intro x0 r h
  unfold Su_takes at h
  refine z_iload_n dX7_takes_0 0 rfl ?_
  refine z_ineg dX7_takes_1 ?_
  refine z_istore_n (M := mX7_takes) (lv2 := [(1, .int (-x0)), (0, .int x0)]) dX7_takes_2 (Nat.le_of_ble_eq_true rfl) rfl ?_
  refine z_iload_n dX7_takes_3 0 rfl ?_
  refine z_if_le 29 dX7_takes_4 rfl (fun hc1 => ?_) (fun hc1 => ?_)
  · replace h := oT hc1 h
    refine z_iconst (M := mX7_takes) (v := 0) dX7_takes_29 rfl ?_
    cases h
    exact z_iret dX7_takes_30 rfl
  · replace h := oF hc1 h
    refine z_iload_n dX7_takes_7 0 rfl ?_
    refine z_iconst (M := mX7_takes) (v := 4) dX7_takes_8 rfl ?_
    refine z_icmp_eq 29 dX7_takes_9 rfl (fun hc2 => ?_) (fun hc2 => ?_)
    · replace h := oT hc2 h
      refine z_iconst (M := mX7_takes) (v := 0) dX7_takes_29 rfl ?_
      cases h
      exact z_iret dX7_takes_30 rfl
    · replace h := oF hc2 h
      refine z_iload_n dX7_takes_12 0 rfl ?_
      refine z_iconst (M := mX7_takes) (v := 5) dX7_takes_13 rfl ?_
      refine z_icmp_eq 29 dX7_takes_14 rfl (fun hc3 => ?_) (fun hc3 => ?_)
      · replace h := oT hc3 h
        refine z_iconst (M := mX7_takes) (v := 0) dX7_takes_29 rfl ?_
        cases h
        exact z_iret dX7_takes_30 rfl
      · replace h := oF hc3 h
        refine z_iload_n dX7_takes_17 0 rfl ?_
        refine z_bipush (M := mX7_takes) (v := 22) dX7_takes_18 rfl ?_
        refine z_icmp_lt 31 dX7_takes_20 rfl (fun hc4 => ?_) (fun hc4 => ?_)
        · replace h := oT hc4 h
          refine z_lv (lv2 := [(1, .int (-x0))]) [0] rfl ?_
          exact t_Su_takes_31 hd0  (-x0) _ h
        · replace h := oF hc4 h
          refine z_iload_n dX7_takes_23 0 rfl ?_
          refine z_bipush (M := mX7_takes) (v := 26) dX7_takes_24 rfl ?_
          refine z_icmp_gt 31 dX7_takes_26 rfl (fun hc5 => ?_) (fun hc5 => ?_)
          · replace h := oT hc5 h
            refine z_lv (lv2 := [(1, .int (-x0))]) [0] rfl ?_
            exact t_Su_takes_31 hd0  (-x0) _ h
          · replace h := oF hc5 h
            refine z_iconst (M := mX7_takes) (v := 0) dX7_takes_29 rfl ?_
            cases h
            exact z_iret dX7_takes_30 rfl
theorem ct_Su_takes {g : GG} {d : Nat} {x0 : Int32} {μ : Mm} {r : Int32} (hd0 : 1 ≤ d)  (h : Su_takes x0 = some r) : Ct g d mX7_takes [.int x0] μ (some (.int r), μ) := y_entry in_X7_takes (Nat.le_of_ble_eq_true rfl) rfl (t_Su_takes hd0 x0 r h)
-- FuseMinutes$Sums.valueOf(LFuseMinutes$Text;III)I
theorem dX7_valueOf_0 : decode cX7_valueOf 0 = .ok (.aload_n 0, 1) := by decide +kernel
theorem dX7_valueOf_1 : decode cX7_valueOf 1 = .ok (.getfield 15, 3) := by decide +kernel
theorem dX7_valueOf_4 : decode cX7_valueOf 4 = .ok (.getfield 19, 3) := by decide +kernel
theorem dX7_valueOf_7 : decode cX7_valueOf 7 = .ok (.iload_n 3, 1) := by decide +kernel
theorem dX7_valueOf_8 : decode cX7_valueOf 8 = .ok (.invokevirtual 25, 3) := by decide +kernel
theorem dX7_valueOf_11 : decode cX7_valueOf 11 = .ok (.ifCond .ne 5, 3) := by decide +kernel
theorem dX7_valueOf_14 : decode cX7_valueOf 14 = .ok (.iconst 0, 1) := by decide +kernel
theorem dX7_valueOf_15 : decode cX7_valueOf 15 = .ok (.ireturn, 1) := by decide +kernel
theorem dX7_valueOf_16 : decode cX7_valueOf 16 = .ok (.aload_n 0, 1) := by decide +kernel
theorem dX7_valueOf_17 : decode cX7_valueOf 17 = .ok (.iload_n 3, 1) := by decide +kernel
theorem dX7_valueOf_18 : decode cX7_valueOf 18 = .ok (.putfield 31, 3) := by decide +kernel
theorem dX7_valueOf_21 : decode cX7_valueOf 21 = .ok (.aload_n 0, 1) := by decide +kernel
theorem dX7_valueOf_22 : decode cX7_valueOf 22 = .ok (.iload 4, 2) := by decide +kernel
theorem dX7_valueOf_24 : decode cX7_valueOf 24 = .ok (.putfield 35, 3) := by decide +kernel
theorem dX7_valueOf_27 : decode cX7_valueOf 27 = .ok (.iconst 0, 1) := by decide +kernel
theorem dX7_valueOf_28 : decode cX7_valueOf 28 = .ok (.istore 5, 2) := by decide +kernel
theorem dX7_valueOf_30 : decode cX7_valueOf 30 = .ok (.aload_n 1, 1) := by decide +kernel
theorem dX7_valueOf_31 : decode cX7_valueOf 31 = .ok (.getfield 38, 3) := by decide +kernel
theorem dX7_valueOf_34 : decode cX7_valueOf 34 = .ok (.iload_n 2, 1) := by decide +kernel
theorem dX7_valueOf_35 : decode cX7_valueOf 35 = .ok (.iaload, 1) := by decide +kernel
theorem dX7_valueOf_36 : decode cX7_valueOf 36 = .ok (.istore 6, 2) := by decide +kernel
theorem dX7_valueOf_38 : decode cX7_valueOf 38 = .ok (.iload 6, 2) := by decide +kernel
theorem dX7_valueOf_40 : decode cX7_valueOf 40 = .ok (.aload_n 1, 1) := by decide +kernel
theorem dX7_valueOf_41 : decode cX7_valueOf 41 = .ok (.getfield 43, 3) := by decide +kernel
theorem dX7_valueOf_44 : decode cX7_valueOf 44 = .ok (.iload_n 2, 1) := by decide +kernel
theorem dX7_valueOf_45 : decode cX7_valueOf 45 = .ok (.iaload, 1) := by decide +kernel
theorem dX7_valueOf_46 : decode cX7_valueOf 46 = .ok (.if_icmp .ge 128, 3) := by decide +kernel
theorem dX7_valueOf_49 : decode cX7_valueOf 49 = .ok (.iload 6, 2) := by decide +kernel
theorem dX7_valueOf_51 : decode cX7_valueOf 51 = .ok (.sipush 300, 3) := by decide +kernel
theorem dX7_valueOf_54 : decode cX7_valueOf 54 = .ok (.if_icmp .ge 120, 3) := by decide +kernel
theorem dX7_valueOf_57 : decode cX7_valueOf 57 = .ok (.aload_n 1, 1) := by decide +kernel
theorem dX7_valueOf_58 : decode cX7_valueOf 58 = .ok (.getfield 46, 3) := by decide +kernel
theorem dX7_valueOf_61 : decode cX7_valueOf 61 = .ok (.iload 6, 2) := by decide +kernel
theorem dX7_valueOf_63 : decode cX7_valueOf 63 = .ok (.iaload, 1) := by decide +kernel
theorem dX7_valueOf_64 : decode cX7_valueOf 64 = .ok (.istore 7, 2) := by decide +kernel
theorem dX7_valueOf_66 : decode cX7_valueOf 66 = .ok (.iload 7, 2) := by decide +kernel
theorem dX7_valueOf_68 : decode cX7_valueOf 68 = .ok (.invokestatic 49, 3) := by decide +kernel
theorem dX7_valueOf_71 : decode cX7_valueOf 71 = .ok (.istore 8, 2) := by decide +kernel
theorem dX7_valueOf_73 : decode cX7_valueOf 73 = .ok (.iload 5, 2) := by decide +kernel
theorem dX7_valueOf_75 : decode cX7_valueOf 75 = .ok (.iload 8, 2) := by decide +kernel
theorem dX7_valueOf_77 : decode cX7_valueOf 77 = .ok (.isub, 1) := by decide +kernel
theorem dX7_valueOf_78 : decode cX7_valueOf 78 = .ok (.istore 9, 2) := by decide +kernel
theorem dX7_valueOf_80 : decode cX7_valueOf 80 = .ok (.iload 9, 2) := by decide +kernel
theorem dX7_valueOf_82 : decode cX7_valueOf 82 = .ok (.ifCond .lt 15, 3) := by decide +kernel
theorem dX7_valueOf_85 : decode cX7_valueOf 85 = .ok (.iload 9, 2) := by decide +kernel
theorem dX7_valueOf_87 : decode cX7_valueOf 87 = .ok (.iconst 3, 1) := by decide +kernel
theorem dX7_valueOf_88 : decode cX7_valueOf 88 = .ok (.iadd, 1) := by decide +kernel
theorem dX7_valueOf_89 : decode cX7_valueOf 89 = .ok (.aload_n 0, 1) := by decide +kernel
theorem dX7_valueOf_90 : decode cX7_valueOf 90 = .ok (.getfield 9, 3) := by decide +kernel
theorem dX7_valueOf_93 : decode cX7_valueOf 93 = .ok (.arraylength, 1) := by decide +kernel
theorem dX7_valueOf_94 : decode cX7_valueOf 94 = .ok (.if_icmp .le 5, 3) := by decide +kernel
theorem dX7_valueOf_97 : decode cX7_valueOf 97 = .ok (.iconst 0, 1) := by decide +kernel
theorem dX7_valueOf_98 : decode cX7_valueOf 98 = .ok (.ireturn, 1) := by decide +kernel
theorem dX7_valueOf_99 : decode cX7_valueOf 99 = .ok (.iload 8, 2) := by decide +kernel
theorem dX7_valueOf_101 : decode cX7_valueOf 101 = .ok (.ifCond .ne 12, 3) := by decide +kernel
theorem dX7_valueOf_104 : decode cX7_valueOf 104 = .ok (.aload_n 0, 1) := by decide +kernel
theorem dX7_valueOf_105 : decode cX7_valueOf 105 = .ok (.iload 7, 2) := by decide +kernel
theorem dX7_valueOf_107 : decode cX7_valueOf 107 = .ok (.invokevirtual 53, 3) := by decide +kernel
theorem dX7_valueOf_110 : decode cX7_valueOf 110 = .ok (.goto 38, 3) := by decide +kernel
theorem dX7_valueOf_113 : decode cX7_valueOf 113 = .ok (.aload_n 0, 1) := by decide +kernel
theorem dX7_valueOf_114 : decode cX7_valueOf 114 = .ok (.iload 7, 2) := by decide +kernel
theorem dX7_valueOf_116 : decode cX7_valueOf 116 = .ok (.ineg, 1) := by decide +kernel
theorem dX7_valueOf_117 : decode cX7_valueOf 117 = .ok (.aload_n 0, 1) := by decide +kernel
theorem dX7_valueOf_118 : decode cX7_valueOf 118 = .ok (.getfield 9, 3) := by decide +kernel
theorem dX7_valueOf_121 : decode cX7_valueOf 121 = .ok (.iload 9, 2) := by decide +kernel
theorem dX7_valueOf_123 : decode cX7_valueOf 123 = .ok (.iaload, 1) := by decide +kernel
theorem dX7_valueOf_124 : decode cX7_valueOf 124 = .ok (.i2l, 1) := by decide +kernel
theorem dX7_valueOf_125 : decode cX7_valueOf 125 = .ok (.aload_n 0, 1) := by decide +kernel
theorem dX7_valueOf_126 : decode cX7_valueOf 126 = .ok (.getfield 9, 3) := by decide +kernel
theorem dX7_valueOf_129 : decode cX7_valueOf 129 = .ok (.iload 9, 2) := by decide +kernel
theorem dX7_valueOf_131 : decode cX7_valueOf 131 = .ok (.iconst 1, 1) := by decide +kernel
theorem dX7_valueOf_132 : decode cX7_valueOf 132 = .ok (.iadd, 1) := by decide +kernel
theorem dX7_valueOf_133 : decode cX7_valueOf 133 = .ok (.iaload, 1) := by decide +kernel
theorem dX7_valueOf_134 : decode cX7_valueOf 134 = .ok (.i2l, 1) := by decide +kernel
theorem dX7_valueOf_135 : decode cX7_valueOf 135 = .ok (.aload_n 0, 1) := by decide +kernel
theorem dX7_valueOf_136 : decode cX7_valueOf 136 = .ok (.getfield 9, 3) := by decide +kernel
theorem dX7_valueOf_139 : decode cX7_valueOf 139 = .ok (.iload 9, 2) := by decide +kernel
theorem dX7_valueOf_141 : decode cX7_valueOf 141 = .ok (.iconst 2, 1) := by decide +kernel
theorem dX7_valueOf_142 : decode cX7_valueOf 142 = .ok (.iadd, 1) := by decide +kernel
theorem dX7_valueOf_143 : decode cX7_valueOf 143 = .ok (.iaload, 1) := by decide +kernel
theorem dX7_valueOf_144 : decode cX7_valueOf 144 = .ok (.i2l, 1) := by decide +kernel
theorem dX7_valueOf_145 : decode cX7_valueOf 145 = .ok (.invokevirtual 57, 3) := by decide +kernel
theorem dX7_valueOf_148 : decode cX7_valueOf 148 = .ok (.lstore 10, 2) := by decide +kernel
theorem dX7_valueOf_150 : decode cX7_valueOf 150 = .ok (.aload_n 0, 1) := by decide +kernel
theorem dX7_valueOf_151 : decode cX7_valueOf 151 = .ok (.getfield 9, 3) := by decide +kernel
theorem dX7_valueOf_154 : decode cX7_valueOf 154 = .ok (.iload 9, 2) := by decide +kernel
theorem dX7_valueOf_156 : decode cX7_valueOf 156 = .ok (.lload 10, 2) := by decide +kernel
theorem dX7_valueOf_158 : decode cX7_valueOf 158 = .ok (.invokestatic 61, 3) := by decide +kernel
theorem dX7_valueOf_161 : decode cX7_valueOf 161 = .ok (.iastore, 1) := by decide +kernel
theorem dX7_valueOf_162 : decode cX7_valueOf 162 = .ok (.iload 9, 2) := by decide +kernel
theorem dX7_valueOf_164 : decode cX7_valueOf 164 = .ok (.iconst 1, 1) := by decide +kernel
theorem dX7_valueOf_165 : decode cX7_valueOf 165 = .ok (.iadd, 1) := by decide +kernel
theorem dX7_valueOf_166 : decode cX7_valueOf 166 = .ok (.istore 5, 2) := by decide +kernel
theorem dX7_valueOf_168 : decode cX7_valueOf 168 = .ok (.iinc 6 1, 3) := by decide +kernel
theorem dX7_valueOf_171 : decode cX7_valueOf 171 = .ok (.goto (-133), 3) := by decide +kernel
theorem dX7_valueOf_174 : decode cX7_valueOf 174 = .ok (.aload_n 0, 1) := by decide +kernel
theorem dX7_valueOf_175 : decode cX7_valueOf 175 = .ok (.getfield 9, 3) := by decide +kernel
theorem dX7_valueOf_178 : decode cX7_valueOf 178 = .ok (.iconst 0, 1) := by decide +kernel
theorem dX7_valueOf_179 : decode cX7_valueOf 179 = .ok (.iaload, 1) := by decide +kernel
theorem dX7_valueOf_180 : decode cX7_valueOf 180 = .ok (.ireturn, 1) := by decide +kernel
def Su_valueOf_148 (k38 : Nat → Int32 → Int32 → Int32 → Nm → Option (Int32 × Nm)) (x1 : Nat) (x2 : Int32) (x6 : Int32) (x9 : Int32) (s0 : Int64) (ν : Nm) : Option (Int32 × Nm) :=
  (Su_limited s0).bind fun v1 =>
  if inb x9 301 then
  k38 x1 x2 (x9 + (1 : Int32)) (x6 + (1 : Int32)) (si ν 275 x9.toNatClampNeg v1)
  else none
set_option maxRecDepth 100000 in
set_option maxHeartbeats 4000000 in
theorem t_Su_valueOf_148 {g : GG} {d : Nat} (hd0 : 3 ≤ d) {k38 : Nat → Int32 → Int32 → Int32 → Nm → Option (Int32 × Nm)} (hk38 : ∀ (x1 : Nat) (x2 : Int32) (x5 : Int32) (x6 : Int32) (ν : Nm) (r : (Int32 × Nm)), zk 333 x1 (7, 0) → k38 x1 x2 x5 x6 ν = some r → Z g d (0, 0) mX7_valueOf 333 0 0 38 [(0, .ref 274), (1, .ref x1), (2, .int x2), (5, .int x5), (6, .int x6)] [] (zem ν) (zF g (some (.int r.1), zem r.2))) : ∀ (x1 : Nat) (x2 : Int32) (x6 : Int32) (x9 : Int32) (s0 : Int64) (ν : Nm) (r : (Int32 × Nm)), zk 333 x1 (7, 0) → Su_valueOf_148 k38 x1 x2 x6 x9 s0 ν = some r → Z g d (0, 0) mX7_valueOf 333 0 0 148 [(0, .ref 274), (1, .ref x1), (2, .int x2), (6, .int x6), (9, .int x9)] [.long s0] (zem ν) (zF g (some (.int r.1), zem r.2)) := by
  intro x1 x2 x6 x9 s0 ν r hq1 h
  unfold Su_valueOf_148 at h
  refine z_lstore (M := mX7_valueOf) (lv2 := [(10, .long s0), (0, .ref 274), (1, .ref x1), (2, .int x2), (6, .int x6), (9, .int x9)]) dX7_valueOf_148 (Nat.le_of_ble_eq_true rfl) rfl ?_
  refine z_aload_n dX7_valueOf_150 1 rfl ?_
  refine y_getR (M := mX7_valueOf) (r := 275) dX7_valueOf_151 zk_274 flRX7_9 fr_6_1.1 (fr_6_1.2 _) ?_
  refine z_iload dX7_valueOf_154 5 rfl ?_
  refine z_lload dX7_valueOf_156 0 rfl ?_
  obtain ⟨v1, he1, h⟩ := obind h
  refine y_Si (M := mX7_valueOf) (Y := mX7_limited) (d2 := d - 1) (As := [.long s0]) (st := [.int x9, .ref 275]) dX7_valueOf_158 mlRX7_61 cv_X7_limited (ct_Su_limited (dle (Nat.le_of_ble_eq_true rfl) hd0) he1) (dps (Nat.le_of_ble_eq_true rfl) hd0) rfl rfl (Nat.le_of_ble_eq_true rfl) ?_
  obtain ⟨hi2, h⟩ := oif h
  refine y_iast (M := mX7_valueOf) (jj := x9.toNatClampNeg) dX7_valueOf_161 zk_275 hi2 rfl ?_
  refine z_iload dX7_valueOf_162 5 rfl ?_
  refine z_iconst (M := mX7_valueOf) (v := 1) dX7_valueOf_164 rfl ?_
  refine z_iadd dX7_valueOf_165 ?_
  refine z_istore (M := mX7_valueOf) (lv2 := [(5, .int (x9 + (1 : Int32))), (10, .long s0), (0, .ref 274), (1, .ref x1), (2, .int x2), (6, .int x6), (9, .int x9)]) dX7_valueOf_166 (Nat.le_of_ble_eq_true rfl) rfl ?_
  refine z_iinc (M := mX7_valueOf) (v := (x6 + (1 : Int32))) (lv2 := [(6, .int (x6 + (1 : Int32))), (5, .int (x9 + (1 : Int32))), (10, .long s0), (0, .ref 274), (1, .ref x1), (2, .int x2), (9, .int x9)]) dX7_valueOf_168 5 rfl rfl (Nat.le_of_ble_eq_true rfl) rfl ?_
  refine z_goto 38 dX7_valueOf_171 rfl ?_
  refine z_lv (lv2 := [(0, .ref 274), (1, .ref x1), (2, .int x2), (5, .int (x9 + (1 : Int32))), (6, .int (x6 + (1 : Int32)))]) [3, 4, 5, 1, 0] rfl ?_
  exact hk38 x1 x2 (x9 + (1 : Int32)) (x6 + (1 : Int32)) (si ν 275 x9.toNatClampNeg v1) _ hq1 h
def Su_valueOf_174 (ν : Nm) : Option (Int32 × Nm) :=
  some ((gi ν 275 0), ν)
set_option maxRecDepth 100000 in
set_option maxHeartbeats 4000000 in
theorem t_Su_valueOf_174 {g : GG} {d : Nat} (hd0 : 3 ≤ d) : ∀ (ν : Nm) (r : (Int32 × Nm)), Su_valueOf_174 ν = some r → Z g d (0, 0) mX7_valueOf 333 0 0 174 [(0, .ref 274)] [] (zem ν) (zF g (some (.int r.1), zem r.2)) := by
  intro ν r h
  unfold Su_valueOf_174 at h
  refine z_aload_n dX7_valueOf_174 0 rfl ?_
  refine y_getR (M := mX7_valueOf) (r := 275) dX7_valueOf_175 zk_274 flRX7_9 fr_6_1.1 (fr_6_1.2 _) ?_
  refine z_iconst (M := mX7_valueOf) (v := 0) dX7_valueOf_178 rfl ?_
  refine y_iald (M := mX7_valueOf) (jj := 0) dX7_valueOf_179 zk_275 rfl rfl ?_
  cases h
  exact z_iret dX7_valueOf_180 rfl
def Su_valueOf_38 : Nat → Nat → Int32 → Int32 → Int32 → Nm → Option (Int32 × Nm)
  | 0, _, _, _, _, _ => none
  | f + 1, x1, x2, x5, x6, ν =>
    if inb x2 2 then
    (if (gi ν (x1 + 6) x2.toNatClampNeg) ≤ x6 then
      Su_valueOf_174 ν
    else
      (if (300 : Int32) ≤ x6 then
        Su_valueOf_174 ν
      else
        if inb x6 300 then
        (Su_takes (gi ν (x1 + 4) x6.toNatClampNeg)).bind fun v5 =>
        (if (x5 - v5) < 0 then
          some ((0 : Int32), ν)
        else
          (if ((x5 - v5) + (3 : Int32)) ≤ (301 : Int32) then
            (if ¬ v5 = 0 then
              if inb (x5 - v5) 301 then
              if inb ((x5 - v5) + (1 : Int32)) 301 then
              if inb ((x5 - v5) + (2 : Int32)) 301 then
              (Su_result ν (-(gi ν (x1 + 4) x6.toNatClampNeg)) (gi ν 275 (x5 - v5).toNatClampNeg).toInt64 (gi ν 275 ((x5 - v5) + (1 : Int32)).toNatClampNeg).toInt64 (gi ν 275 ((x5 - v5) + (2 : Int32)).toNatClampNeg).toInt64).bind fun v12 =>
              Su_valueOf_148 (Su_valueOf_38 f) x1 x2 x6 (x5 - v5) v12 ν
              else none
              else none
              else none
            else
              (Su_leaf ν (gi ν (x1 + 4) x6.toNatClampNeg)).bind fun v13 =>
              Su_valueOf_148 (Su_valueOf_38 f) x1 x2 x6 (x5 - v5) v13 ν)
          else
            some ((0 : Int32), ν)))
        else none))
    else none
set_option maxRecDepth 100000 in
set_option maxHeartbeats 4000000 in
theorem t_Su_valueOf_38 {g : GG} {d : Nat} (hd0 : 3 ≤ d) : ∀ (f : Nat), ∀ (x1 : Nat) (x2 : Int32) (x5 : Int32) (x6 : Int32) (ν : Nm) (r : (Int32 × Nm)), zk 333 x1 (7, 0) → Su_valueOf_38 f x1 x2 x5 x6 ν = some r → Z g d (0, 0) mX7_valueOf 333 0 0 38 [(0, .ref 274), (1, .ref x1), (2, .int x2), (5, .int x5), (6, .int x6)] [] (zem ν) (zF g (some (.int r.1), zem r.2)) := by
  intro f
  induction f with
  | zero =>
    intro x1 x2 x5 x6 ν r hq1 h
    cases h
  | succ f ih =>
    intro x1 x2 x5 x6 ν r hq1 h
    rw [Su_valueOf_38] at h
    refine z_iload dX7_valueOf_38 4 rfl ?_
    refine z_aload_n dX7_valueOf_40 1 rfl ?_
    refine y_getR (M := mX7_valueOf) (r := (x1 + 6)) dX7_valueOf_41 hq1 flRX7_43 fr_7_7.1 (fr_7_7.2 _) ?_
    refine z_iload_n dX7_valueOf_44 2 rfl ?_
    obtain ⟨hi1, h⟩ := oif h
    refine y_iald (M := mX7_valueOf) (jj := x2.toNatClampNeg) dX7_valueOf_45 (zko_7_7 hq1) hi1 rfl ?_
    refine z_icmp_ge 174 dX7_valueOf_46 rfl (fun hc2 => ?_) (fun hc2 => ?_)
    · replace h := oT hc2 h
      refine z_lv (lv2 := [(0, .ref 274)]) [0] rfl ?_
      exact t_Su_valueOf_174 hd0  ν _ h
    · replace h := oF hc2 h
      refine z_iload dX7_valueOf_49 4 rfl ?_
      refine z_sipush (M := mX7_valueOf) (v := 300) dX7_valueOf_51 rfl ?_
      refine z_icmp_ge 174 dX7_valueOf_54 rfl (fun hc3 => ?_) (fun hc3 => ?_)
      · replace h := oT hc3 h
        refine z_lv (lv2 := [(0, .ref 274)]) [0] rfl ?_
        exact t_Su_valueOf_174 hd0  ν _ h
      · replace h := oF hc3 h
        refine z_aload_n dX7_valueOf_57 1 rfl ?_
        refine y_getR (M := mX7_valueOf) (r := (x1 + 4)) dX7_valueOf_58 hq1 flRX7_46 fr_7_4.1 (fr_7_4.2 _) ?_
        refine z_iload dX7_valueOf_61 4 rfl ?_
        obtain ⟨hi4, h⟩ := oif h
        refine y_iald (M := mX7_valueOf) (jj := x6.toNatClampNeg) dX7_valueOf_63 (zko_7_4 hq1) hi4 rfl ?_
        refine z_istore (M := mX7_valueOf) (lv2 := [(7, .int (gi ν (x1 + 4) x6.toNatClampNeg)), (0, .ref 274), (1, .ref x1), (2, .int x2), (5, .int x5), (6, .int x6)]) dX7_valueOf_64 (Nat.le_of_ble_eq_true rfl) rfl ?_
        refine z_iload dX7_valueOf_66 0 rfl ?_
        obtain ⟨v5, he5, h⟩ := obind h
        refine y_Si (M := mX7_valueOf) (Y := mX7_takes) (d2 := d - 1) (As := [.int (gi ν (x1 + 4) x6.toNatClampNeg)]) (st := []) dX7_valueOf_68 mlRX7_49 cv_X7_takes (ct_Su_takes (dle (Nat.le_of_ble_eq_true rfl) hd0) he5) (dps (Nat.le_of_ble_eq_true rfl) hd0) rfl rfl (Nat.le_of_ble_eq_true rfl) ?_
        refine z_istore (M := mX7_valueOf) (lv2 := [(8, .int v5), (7, .int (gi ν (x1 + 4) x6.toNatClampNeg)), (0, .ref 274), (1, .ref x1), (2, .int x2), (5, .int x5), (6, .int x6)]) dX7_valueOf_71 (Nat.le_of_ble_eq_true rfl) rfl ?_
        refine z_iload dX7_valueOf_73 5 rfl ?_
        refine z_iload dX7_valueOf_75 0 rfl ?_
        refine z_isub dX7_valueOf_77 ?_
        refine z_istore (M := mX7_valueOf) (lv2 := [(9, .int (x5 - v5)), (8, .int v5), (7, .int (gi ν (x1 + 4) x6.toNatClampNeg)), (0, .ref 274), (1, .ref x1), (2, .int x2), (5, .int x5), (6, .int x6)]) dX7_valueOf_78 (Nat.le_of_ble_eq_true rfl) rfl ?_
        refine z_iload dX7_valueOf_80 0 rfl ?_
        refine z_if_lt 97 dX7_valueOf_82 rfl (fun hc6 => ?_) (fun hc6 => ?_)
        · replace h := oT hc6 h
          refine z_iconst (M := mX7_valueOf) (v := 0) dX7_valueOf_97 rfl ?_
          cases h
          exact z_iret dX7_valueOf_98 rfl
        · replace h := oF hc6 h
          refine z_iload dX7_valueOf_85 0 rfl ?_
          refine z_iconst (M := mX7_valueOf) (v := 3) dX7_valueOf_87 rfl ?_
          refine z_iadd dX7_valueOf_88 ?_
          refine z_aload_n dX7_valueOf_89 3 rfl ?_
          refine y_getR (M := mX7_valueOf) (r := 275) dX7_valueOf_90 zk_274 flRX7_9 fr_6_1.1 (fr_6_1.2 _) ?_
          refine z_alen (M := mX7_valueOf) (v := (301 : Int32)) dX7_valueOf_93 zk_275 rfl ?_
          refine z_icmp_le 99 dX7_valueOf_94 rfl (fun hc7 => ?_) (fun hc7 => ?_)
          · replace h := oT hc7 h
            refine z_iload dX7_valueOf_99 1 rfl ?_
            refine z_if_ne 113 dX7_valueOf_101 rfl (fun hc8 => ?_) (fun hc8 => ?_)
            · replace h := oT hc8 h
              refine z_aload_n dX7_valueOf_113 3 rfl ?_
              refine z_iload dX7_valueOf_114 2 rfl ?_
              refine z_ineg dX7_valueOf_116 ?_
              refine z_aload_n dX7_valueOf_117 3 rfl ?_
              refine y_getR (M := mX7_valueOf) (r := 275) dX7_valueOf_118 zk_274 flRX7_9 fr_6_1.1 (fr_6_1.2 _) ?_
              refine z_iload dX7_valueOf_121 0 rfl ?_
              obtain ⟨hi9, h⟩ := oif h
              refine y_iald (M := mX7_valueOf) (jj := (x5 - v5).toNatClampNeg) dX7_valueOf_123 zk_275 hi9 rfl ?_
              refine z_i2l dX7_valueOf_124 ?_
              refine z_aload_n dX7_valueOf_125 3 rfl ?_
              refine y_getR (M := mX7_valueOf) (r := 275) dX7_valueOf_126 zk_274 flRX7_9 fr_6_1.1 (fr_6_1.2 _) ?_
              refine z_iload dX7_valueOf_129 0 rfl ?_
              refine z_iconst (M := mX7_valueOf) (v := 1) dX7_valueOf_131 rfl ?_
              refine z_iadd dX7_valueOf_132 ?_
              obtain ⟨hi10, h⟩ := oif h
              refine y_iald (M := mX7_valueOf) (jj := ((x5 - v5) + (1 : Int32)).toNatClampNeg) dX7_valueOf_133 zk_275 hi10 rfl ?_
              refine z_i2l dX7_valueOf_134 ?_
              refine z_aload_n dX7_valueOf_135 3 rfl ?_
              refine y_getR (M := mX7_valueOf) (r := 275) dX7_valueOf_136 zk_274 flRX7_9 fr_6_1.1 (fr_6_1.2 _) ?_
              refine z_iload dX7_valueOf_139 0 rfl ?_
              refine z_iconst (M := mX7_valueOf) (v := 2) dX7_valueOf_141 rfl ?_
              refine z_iadd dX7_valueOf_142 ?_
              obtain ⟨hi11, h⟩ := oif h
              refine y_iald (M := mX7_valueOf) (jj := ((x5 - v5) + (2 : Int32)).toNatClampNeg) dX7_valueOf_143 zk_275 hi11 rfl ?_
              refine z_i2l dX7_valueOf_144 ?_
              obtain ⟨v12, he12, h⟩ := obind h
              refine y_Vl (M := mX7_valueOf) (Y := mX7_result) (d2 := d - 1) (As := [.int (-(gi ν (x1 + 4) x6.toNatClampNeg)), .long (gi ν 275 (x5 - v5).toNatClampNeg).toInt64, .long (gi ν 275 ((x5 - v5) + (1 : Int32)).toNatClampNeg).toInt64, .long (gi ν 275 ((x5 - v5) + (2 : Int32)).toNatClampNeg).toInt64]) (st := []) dX7_valueOf_145 mlRX7_57 cv_X7_result zk_274 (ct_Su_result (dle (Nat.le_of_ble_eq_true rfl) hd0) he12) (dps (Nat.le_of_ble_eq_true rfl) hd0) rfl rfl (Nat.le_of_ble_eq_true rfl) ?_
              refine z_lv (lv2 := [(0, .ref 274), (1, .ref x1), (2, .int x2), (6, .int x6), (9, .int (x5 - v5))]) [3, 4, 5, 7, 0] rfl ?_
              exact t_Su_valueOf_148 hd0 ih x1 x2 x6 (x5 - v5) v12 ν _ hq1 h
            · replace h := oFn hc8 h
              refine z_aload_n dX7_valueOf_104 3 rfl ?_
              refine z_iload dX7_valueOf_105 2 rfl ?_
              obtain ⟨v13, he13, h⟩ := obind h
              refine y_Vl (M := mX7_valueOf) (Y := mX7_leaf) (d2 := d - 1) (As := [.int (gi ν (x1 + 4) x6.toNatClampNeg)]) (st := []) dX7_valueOf_107 mlRX7_53 cv_X7_leaf zk_274 (ct_Su_leaf (dle (Nat.le_of_ble_eq_true rfl) hd0) he13) (dps (Nat.le_of_ble_eq_true rfl) hd0) rfl rfl (Nat.le_of_ble_eq_true rfl) ?_
              refine z_goto 148 dX7_valueOf_110 rfl ?_
              refine z_lv (lv2 := [(0, .ref 274), (1, .ref x1), (2, .int x2), (6, .int x6), (9, .int (x5 - v5))]) [3, 4, 5, 7, 0] rfl ?_
              exact t_Su_valueOf_148 hd0 ih x1 x2 x6 (x5 - v5) v13 ν _ hq1 h
          · replace h := oF hc7 h
            refine z_iconst (M := mX7_valueOf) (v := 0) dX7_valueOf_97 rfl ?_
            cases h
            exact z_iret dX7_valueOf_98 rfl
def Su_valueOf (x1 : Nat) (x2 : Int32) (x3 : Int32) (x4 : Int32) (ν : Nm) : Option (Int32 × Nm) :=
  (Pt_has ν 2 x3).bind fun v1 =>
  (if ¬ (b2i v1) = 0 then
    if inb x2 2 then
    Su_valueOf_38 FU x1 x2 (0 : Int32) (gi (si (si ν 274 2 x3) 274 3 x4) (x1 + 5) x2.toNatClampNeg) (si (si ν 274 2 x3) 274 3 x4)
    else none
  else
    some ((0 : Int32), ν))
set_option maxRecDepth 100000 in
set_option maxHeartbeats 4000000 in
theorem t_Su_valueOf {g : GG} {d : Nat} (hd0 : 3 ≤ d) : ∀ (x1 : Nat) (x2 : Int32) (x3 : Int32) (x4 : Int32) (ν : Nm) (r : (Int32 × Nm)), zk 333 x1 (7, 0) → Su_valueOf x1 x2 x3 x4 ν = some r → Z g d (0, 0) mX7_valueOf 333 0 0 0 [(0, .ref 274), (1, .ref x1), (2, .int x2), (3, .int x3), (4, .int x4)] [] (zem ν) (zF g (some (.int r.1), zem r.2)) := by
  intro x1 x2 x3 x4 ν r hq1 h
  unfold Su_valueOf at h
  refine z_aload_n dX7_valueOf_0 0 rfl ?_
  refine y_getR (M := mX7_valueOf) (r := 1) dX7_valueOf_1 zk_274 flRX7_15 fr_6_0.1 (fr_6_0.2 _) ?_
  refine y_getR (M := mX7_valueOf) (r := 2) dX7_valueOf_4 zk_1 flRX7_19 fr_5_0.1 (fr_5_0.2 _) ?_
  refine z_iload_n dX7_valueOf_7 3 rfl ?_
  obtain ⟨v1, he1, h⟩ := obind h
  refine y_Vi (M := mX7_valueOf) (Y := mX2_has) (d2 := d - 1) (As := [.int x3]) (st := []) dX7_valueOf_8 mlRX7_25 cv_X2_has zk_2 (ct_Pt_has (dle (Nat.le_of_ble_eq_true rfl) hd0) zk_2 he1) (dps (Nat.le_of_ble_eq_true rfl) hd0) rfl rfl (Nat.le_of_ble_eq_true rfl) ?_
  refine z_if_ne 16 dX7_valueOf_11 rfl (fun hc2 => ?_) (fun hc2 => ?_)
  · replace h := oT hc2 h
    refine z_aload_n dX7_valueOf_16 0 rfl ?_
    refine z_iload_n dX7_valueOf_17 3 rfl ?_
    refine y_putI dX7_valueOf_18 zk_274 flRX7_31 ⟨rfl, rfl⟩ ?_
    refine z_aload_n dX7_valueOf_21 0 rfl ?_
    refine z_iload dX7_valueOf_22 4 rfl ?_
    refine y_putI dX7_valueOf_24 zk_274 flRX7_35 ⟨rfl, rfl⟩ ?_
    refine z_iconst (M := mX7_valueOf) (v := 0) dX7_valueOf_27 rfl ?_
    refine z_istore (M := mX7_valueOf) (lv2 := [(5, .int (0 : Int32)), (0, .ref 274), (1, .ref x1), (2, .int x2), (3, .int x3), (4, .int x4)]) dX7_valueOf_28 (Nat.le_of_ble_eq_true rfl) rfl ?_
    refine z_aload_n dX7_valueOf_30 2 rfl ?_
    refine y_getR (M := mX7_valueOf) (r := (x1 + 5)) dX7_valueOf_31 hq1 flRX7_38 fr_7_6.1 (fr_7_6.2 _) ?_
    refine z_iload_n dX7_valueOf_34 3 rfl ?_
    obtain ⟨hi3, h⟩ := oif h
    refine y_iald (M := mX7_valueOf) (jj := x2.toNatClampNeg) dX7_valueOf_35 (zko_7_6 hq1) hi3 rfl ?_
    refine z_istore (M := mX7_valueOf) (lv2 := [(6, .int (gi (si (si ν 274 2 x3) 274 3 x4) (x1 + 5) x2.toNatClampNeg)), (5, .int (0 : Int32)), (0, .ref 274), (1, .ref x1), (2, .int x2), (3, .int x3), (4, .int x4)]) dX7_valueOf_36 (Nat.le_of_ble_eq_true rfl) rfl ?_
    refine z_lv (lv2 := [(0, .ref 274), (1, .ref x1), (2, .int x2), (5, .int (0 : Int32)), (6, .int (gi (si (si ν 274 2 x3) 274 3 x4) (x1 + 5) x2.toNatClampNeg))]) [2, 3, 4, 1, 0] rfl ?_
    exact t_Su_valueOf_38 hd0 FU x1 x2 (0 : Int32) (gi (si (si ν 274 2 x3) 274 3 x4) (x1 + 5) x2.toNatClampNeg) (si (si ν 274 2 x3) 274 3 x4) _ hq1 h
  · replace h := oFn hc2 h
    refine z_iconst (M := mX7_valueOf) (v := 0) dX7_valueOf_14 rfl ?_
    cases h
    exact z_iret dX7_valueOf_15 rfl
theorem ct_Su_valueOf {g : GG} {d : Nat} {x1 : Nat} {x2 : Int32} {x3 : Int32} {x4 : Int32} {ν : Nm} {r : (Int32 × Nm)} (hd0 : 3 ≤ d) (hq1 : zk 333 x1 (7, 0)) (h : Su_valueOf x1 x2 x3 x4 ν = some r) : Ct g d mX7_valueOf [.ref 274, .ref x1, .int x2, .int x3, .int x4] (zem ν) (some (.int r.1), zem r.2) := y_entry in_X7_valueOf (Nat.le_of_ble_eq_true rfl) rfl (t_Su_valueOf hd0 x1 x2 x3 x4 ν r hq1 h)

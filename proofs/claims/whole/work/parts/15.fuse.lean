-- FuseMinutes.cord(II)I
theorem dX11_cord_0 : decode cX11_cord 0 = .ok (.aload_n 0, 1) := by decide +kernel
theorem dX11_cord_1 : decode cX11_cord 1 = .ok (.getfield 12, 3) := by decide +kernel
theorem dX11_cord_4 : decode cX11_cord 4 = .ok (.getfield 62, 3) := by decide +kernel
theorem dX11_cord_7 : decode cX11_cord 7 = .ok (.getfield 66, 3) := by decide +kernel
theorem dX11_cord_10 : decode cX11_cord 10 = .ok (.istore_n 3, 1) := by decide +kernel
theorem dX11_cord_11 : decode cX11_cord 11 = .ok (.iload_n 1, 1) := by decide +kernel
theorem dX11_cord_12 : decode cX11_cord 12 = .ok (.iconst 1, 1) := by decide +kernel
theorem dX11_cord_13 : decode cX11_cord 13 = .ok (.bipush 60, 2) := by decide +kernel
theorem dX11_cord_15 : decode cX11_cord 15 = .ok (.invokestatic 72, 3) := by decide +kernel
theorem dX11_cord_18 : decode cX11_cord 18 = .ok (.ifCond .eq 18, 3) := by decide +kernel
theorem dX11_cord_21 : decode cX11_cord 21 = .ok (.iload_n 2, 1) := by decide +kernel
theorem dX11_cord_22 : decode cX11_cord 22 = .ok (.iconst 0, 1) := by decide +kernel
theorem dX11_cord_23 : decode cX11_cord 23 = .ok (.bipush 99, 2) := by decide +kernel
theorem dX11_cord_25 : decode cX11_cord 25 = .ok (.invokestatic 72, 3) := by decide +kernel
theorem dX11_cord_28 : decode cX11_cord 28 = .ok (.ifCond .eq 8, 3) := by decide +kernel
theorem dX11_cord_31 : decode cX11_cord 31 = .ok (.iload_n 3, 1) := by decide +kernel
theorem dX11_cord_32 : decode cX11_cord 32 = .ok (.iconst 4, 1) := by decide +kernel
theorem dX11_cord_33 : decode cX11_cord 33 = .ok (.if_icmp .lt 5, 3) := by decide +kernel
theorem dX11_cord_36 : decode cX11_cord 36 = .ok (.iconst (-1), 1) := by decide +kernel
theorem dX11_cord_37 : decode cX11_cord 37 = .ok (.ireturn, 1) := by decide +kernel
theorem dX11_cord_38 : decode cX11_cord 38 = .ok (.aload_n 0, 1) := by decide +kernel
theorem dX11_cord_39 : decode cX11_cord 39 = .ok (.getfield 12, 3) := by decide +kernel
theorem dX11_cord_42 : decode cX11_cord 42 = .ok (.getfield 43, 3) := by decide +kernel
theorem dX11_cord_45 : decode cX11_cord 45 = .ok (.iload_n 3, 1) := by decide +kernel
theorem dX11_cord_46 : decode cX11_cord 46 = .ok (.iload_n 1, 1) := by decide +kernel
theorem dX11_cord_47 : decode cX11_cord 47 = .ok (.iastore, 1) := by decide +kernel
theorem dX11_cord_48 : decode cX11_cord 48 = .ok (.aload_n 0, 1) := by decide +kernel
theorem dX11_cord_49 : decode cX11_cord 49 = .ok (.getfield 12, 3) := by decide +kernel
theorem dX11_cord_52 : decode cX11_cord 52 = .ok (.getfield 76, 3) := by decide +kernel
theorem dX11_cord_55 : decode cX11_cord 55 = .ok (.iload_n 3, 1) := by decide +kernel
theorem dX11_cord_56 : decode cX11_cord 56 = .ok (.iload_n 2, 1) := by decide +kernel
theorem dX11_cord_57 : decode cX11_cord 57 = .ok (.iastore, 1) := by decide +kernel
theorem dX11_cord_58 : decode cX11_cord 58 = .ok (.aload_n 0, 1) := by decide +kernel
theorem dX11_cord_59 : decode cX11_cord 59 = .ok (.getfield 12, 3) := by decide +kernel
theorem dX11_cord_62 : decode cX11_cord 62 = .ok (.getfield 62, 3) := by decide +kernel
theorem dX11_cord_65 : decode cX11_cord 65 = .ok (.iload_n 1, 1) := by decide +kernel
theorem dX11_cord_66 : decode cX11_cord 66 = .ok (.invokevirtual 79, 3) := by decide +kernel
theorem dX11_cord_69 : decode cX11_cord 69 = .ok (.aload_n 0, 1) := by decide +kernel
theorem dX11_cord_70 : decode cX11_cord 70 = .ok (.getfield 50, 3) := by decide +kernel
theorem dX11_cord_73 : decode cX11_cord 73 = .ok (.iload_n 3, 1) := by decide +kernel
theorem dX11_cord_74 : decode cX11_cord 74 = .ok (.invokevirtual 83, 3) := by decide +kernel
theorem dX11_cord_77 : decode cX11_cord 77 = .ok (.iload_n 3, 1) := by decide +kernel
theorem dX11_cord_78 : decode cX11_cord 78 = .ok (.ireturn, 1) := by decide +kernel
def Fm_cord (x1 : Int32) (x2 : Int32) (ν : Nm) : Option (Int32 × Nm) :=
  (Fm_within x1 (1 : Int32) (60 : Int32)).bind fun v1 =>
  (if (b2i v1) = 0 then
    some ((-1 : Int32), ν)
  else
    (Fm_within x2 (0 : Int32) (99 : Int32)).bind fun v3 =>
    (if (b2i v3) = 0 then
      some ((-1 : Int32), ν)
    else
      (if (gi ν 2 0) < (4 : Int32) then
        if inb (gi ν 2 0) 4 then
        if inb (gi ν 2 0) 4 then
        (Pt_lay 2 x1 (si (si ν 128 (gi ν 2 0).toNatClampNeg x1) 129 (gi ν 2 0).toNatClampNeg x2)).bind fun v8 =>
        (Rw_forget (gi ν 2 0) v8).bind fun v9 =>
        some ((gi ν 2 0), v9)
        else none
        else none
      else
        some ((-1 : Int32), ν))))
set_option maxRecDepth 100000 in
set_option maxHeartbeats 4000000 in
theorem t_Fm_cord {g : GG} {d : Nat} (hd0 : 3 ≤ d) : ∀ (x1 : Int32) (x2 : Int32) (ν : Nm) (r : (Int32 × Nm)), Fm_cord x1 x2 ν = some r → Z g d (0, 0) mX11_cord 333 0 0 0 [(0, .ref 0), (1, .int x1), (2, .int x2)] [] (zem ν) (zF g (some (.int r.1), zem r.2)) := by
  intro x1 x2 ν r h
  unfold Fm_cord at h
  refine z_aload_n dX11_cord_0 0 rfl ?_
  refine y_getR (M := mX11_cord) (r := 1) dX11_cord_1 zk_0 flRX11_12 fr_9_0.1 (fr_9_0.2 _) ?_
  refine y_getR (M := mX11_cord) (r := 2) dX11_cord_4 zk_1 flRX11_62 fr_5_0.1 (fr_5_0.2 _) ?_
  refine y_getI dX11_cord_7 zk_2 flRX11_66 ?_
  refine z_istore_n (M := mX11_cord) (lv2 := [(3, .int (gi ν 2 0)), (0, .ref 0), (1, .int x1), (2, .int x2)]) dX11_cord_10 (Nat.le_of_ble_eq_true rfl) rfl ?_
  refine z_iload_n dX11_cord_11 2 rfl ?_
  refine z_iconst (M := mX11_cord) (v := 1) dX11_cord_12 rfl ?_
  refine z_bipush (M := mX11_cord) (v := 60) dX11_cord_13 rfl ?_
  obtain ⟨v1, he1, h⟩ := obind h
  refine y_Si (M := mX11_cord) (Y := mX11_within) (d2 := d - 1) (As := [.int x1, .int (1 : Int32), .int (60 : Int32)]) (st := []) dX11_cord_15 mlRX11_72 cv_X11_within (ct_Fm_within (dle (Nat.le_of_ble_eq_true rfl) hd0) he1) (dps (Nat.le_of_ble_eq_true rfl) hd0) rfl rfl (Nat.le_of_ble_eq_true rfl) ?_
  refine z_if_eq 36 dX11_cord_18 rfl (fun hc2 => ?_) (fun hc2 => ?_)
  · replace h := oT hc2 h
    refine z_iconst (M := mX11_cord) (v := -1) dX11_cord_36 rfl ?_
    cases h
    exact z_iret dX11_cord_37 rfl
  · replace h := oF hc2 h
    refine z_iload_n dX11_cord_21 3 rfl ?_
    refine z_iconst (M := mX11_cord) (v := 0) dX11_cord_22 rfl ?_
    refine z_bipush (M := mX11_cord) (v := 99) dX11_cord_23 rfl ?_
    obtain ⟨v3, he3, h⟩ := obind h
    refine y_Si (M := mX11_cord) (Y := mX11_within) (d2 := d - 1) (As := [.int x2, .int (0 : Int32), .int (99 : Int32)]) (st := []) dX11_cord_25 mlRX11_72 cv_X11_within (ct_Fm_within (dle (Nat.le_of_ble_eq_true rfl) hd0) he3) (dps (Nat.le_of_ble_eq_true rfl) hd0) rfl rfl (Nat.le_of_ble_eq_true rfl) ?_
    refine z_if_eq 36 dX11_cord_28 rfl (fun hc4 => ?_) (fun hc4 => ?_)
    · replace h := oT hc4 h
      refine z_iconst (M := mX11_cord) (v := -1) dX11_cord_36 rfl ?_
      cases h
      exact z_iret dX11_cord_37 rfl
    · replace h := oF hc4 h
      refine z_iload_n dX11_cord_31 0 rfl ?_
      refine z_iconst (M := mX11_cord) (v := 4) dX11_cord_32 rfl ?_
      refine z_icmp_lt 38 dX11_cord_33 rfl (fun hc5 => ?_) (fun hc5 => ?_)
      · replace h := oT hc5 h
        refine z_aload_n dX11_cord_38 1 rfl ?_
        refine y_getR (M := mX11_cord) (r := 1) dX11_cord_39 zk_0 flRX11_12 fr_9_0.1 (fr_9_0.2 _) ?_
        refine y_getR (M := mX11_cord) (r := 128) dX11_cord_42 zk_1 flRX11_43 fr_5_2.1 (fr_5_2.2 _) ?_
        refine z_iload_n dX11_cord_45 0 rfl ?_
        refine z_iload_n dX11_cord_46 2 rfl ?_
        obtain ⟨hi6, h⟩ := oif h
        refine y_iast (M := mX11_cord) (jj := (gi ν 2 0).toNatClampNeg) dX11_cord_47 zk_128 hi6 rfl ?_
        refine z_aload_n dX11_cord_48 1 rfl ?_
        refine y_getR (M := mX11_cord) (r := 1) dX11_cord_49 zk_0 flRX11_12 fr_9_0.1 (fr_9_0.2 _) ?_
        refine y_getR (M := mX11_cord) (r := 129) dX11_cord_52 zk_1 flRX11_76 fr_5_3.1 (fr_5_3.2 _) ?_
        refine z_iload_n dX11_cord_55 0 rfl ?_
        refine z_iload_n dX11_cord_56 3 rfl ?_
        obtain ⟨hi7, h⟩ := oif h
        refine y_iast (M := mX11_cord) (jj := (gi ν 2 0).toNatClampNeg) dX11_cord_57 zk_129 hi7 rfl ?_
        refine z_aload_n dX11_cord_58 1 rfl ?_
        refine y_getR (M := mX11_cord) (r := 1) dX11_cord_59 zk_0 flRX11_12 fr_9_0.1 (fr_9_0.2 _) ?_
        refine y_getR (M := mX11_cord) (r := 2) dX11_cord_62 zk_1 flRX11_62 fr_5_0.1 (fr_5_0.2 _) ?_
        refine z_iload_n dX11_cord_65 2 rfl ?_
        obtain ⟨v8, he8, h⟩ := obind h
        refine y_Vv (M := mX11_cord) (Y := mX2_lay) (d2 := d - 1) (As := [.int x1]) (st := []) dX11_cord_66 mlRX11_79 cv_X2_lay zk_2 (ct_Pt_lay (dle (Nat.le_of_ble_eq_true rfl) hd0) zk_2 he8) (dps (Nat.le_of_ble_eq_true rfl) hd0) rfl rfl (Nat.le_of_ble_eq_true rfl) ?_
        refine z_aload_n dX11_cord_69 1 rfl ?_
        refine y_getR (M := mX11_cord) (r := 276) dX11_cord_70 zk_0 flRX11_50 fr_9_5.1 (fr_9_5.2 _) ?_
        refine z_iload_n dX11_cord_73 0 rfl ?_
        obtain ⟨v9, he9, h⟩ := obind h
        refine y_Vv (M := mX11_cord) (Y := mX4_forget) (d2 := d - 1) (As := [.int (gi ν 2 0)]) (st := []) dX11_cord_74 mlRX11_83 cv_X4_forget zk_276 (ct_Rw_forget (dle (Nat.le_of_ble_eq_true rfl) hd0) he9) (dps (Nat.le_of_ble_eq_true rfl) hd0) rfl rfl (Nat.le_of_ble_eq_true rfl) ?_
        refine z_iload_n dX11_cord_77 0 rfl ?_
        cases h
        exact z_iret dX11_cord_78 rfl
      · replace h := oF hc5 h
        refine z_iconst (M := mX11_cord) (v := -1) dX11_cord_36 rfl ?_
        cases h
        exact z_iret dX11_cord_37 rfl
theorem ct_Fm_cord {g : GG} {d : Nat} {x1 : Int32} {x2 : Int32} {ν : Nm} {r : (Int32 × Nm)} (hd0 : 3 ≤ d)  (h : Fm_cord x1 x2 ν = some r) : Ct g d mX11_cord [.ref 0, .int x1, .int x2] (zem ν) (some (.int r.1), zem r.2) := y_entry in_X11_cord (Nat.le_of_ble_eq_true rfl) rfl (t_Fm_cord hd0 x1 x2 ν r h)
-- FuseMinutes.hands(I)Z
theorem dX11_hands_0 : decode cX11_hands 0 = .ok (.iload_n 1, 1) := by decide +kernel
theorem dX11_hands_1 : decode cX11_hands 1 = .ok (.iconst 1, 1) := by decide +kernel
theorem dX11_hands_2 : decode cX11_hands 2 = .ok (.bipush 8, 2) := by decide +kernel
theorem dX11_hands_4 : decode cX11_hands 4 = .ok (.invokestatic 72, 3) := by decide +kernel
theorem dX11_hands_7 : decode cX11_hands 7 = .ok (.ifCond .ne 5, 3) := by decide +kernel
theorem dX11_hands_10 : decode cX11_hands 10 = .ok (.iconst 0, 1) := by decide +kernel
theorem dX11_hands_11 : decode cX11_hands 11 = .ok (.ireturn, 1) := by decide +kernel
theorem dX11_hands_12 : decode cX11_hands 12 = .ok (.aload_n 0, 1) := by decide +kernel
theorem dX11_hands_13 : decode cX11_hands 13 = .ok (.getfield 12, 3) := by decide +kernel
theorem dX11_hands_16 : decode cX11_hands 16 = .ok (.iload_n 1, 1) := by decide +kernel
theorem dX11_hands_17 : decode cX11_hands 17 = .ok (.putfield 86, 3) := by decide +kernel
theorem dX11_hands_20 : decode cX11_hands 20 = .ok (.iconst 1, 1) := by decide +kernel
theorem dX11_hands_21 : decode cX11_hands 21 = .ok (.ireturn, 1) := by decide +kernel
def Fm_hands (x1 : Int32) (ν : Nm) : Option (Bool × Nm) :=
  (Fm_within x1 (1 : Int32) (8 : Int32)).bind fun v1 =>
  (if ¬ (b2i v1) = 0 then
    some (true, (si ν 1 5 x1))
  else
    some (false, ν))
set_option maxRecDepth 100000 in
set_option maxHeartbeats 4000000 in
theorem t_Fm_hands {g : GG} {d : Nat} (hd0 : 2 ≤ d) : ∀ (x1 : Int32) (ν : Nm) (r : (Bool × Nm)), Fm_hands x1 ν = some r → Z g d (0, 0) mX11_hands 333 0 0 0 [(0, .ref 0), (1, .int x1)] [] (zem ν) (zF g (some (.int (b2i r.1)), zem r.2)) := by
  intro x1 ν r h
  unfold Fm_hands at h
  refine z_iload_n dX11_hands_0 1 rfl ?_
  refine z_iconst (M := mX11_hands) (v := 1) dX11_hands_1 rfl ?_
  refine z_bipush (M := mX11_hands) (v := 8) dX11_hands_2 rfl ?_
  obtain ⟨v1, he1, h⟩ := obind h
  refine y_Si (M := mX11_hands) (Y := mX11_within) (d2 := d - 1) (As := [.int x1, .int (1 : Int32), .int (8 : Int32)]) (st := []) dX11_hands_4 mlRX11_72 cv_X11_within (ct_Fm_within (dle (Nat.le_of_ble_eq_true rfl) hd0) he1) (dps (Nat.le_of_ble_eq_true rfl) hd0) rfl rfl (Nat.le_of_ble_eq_true rfl) ?_
  refine z_if_ne 12 dX11_hands_7 rfl (fun hc2 => ?_) (fun hc2 => ?_)
  · replace h := oT hc2 h
    refine z_aload_n dX11_hands_12 0 rfl ?_
    refine y_getR (M := mX11_hands) (r := 1) dX11_hands_13 zk_0 flRX11_12 fr_9_0.1 (fr_9_0.2 _) ?_
    refine z_iload_n dX11_hands_16 1 rfl ?_
    refine y_putI dX11_hands_17 zk_1 flRX11_86 ⟨rfl, rfl⟩ ?_
    refine z_iconst (M := mX11_hands) (v := 1) dX11_hands_20 rfl ?_
    cases h
    exact z_zret dX11_hands_21 rfl rfl
  · replace h := oFn hc2 h
    refine z_iconst (M := mX11_hands) (v := 0) dX11_hands_10 rfl ?_
    cases h
    exact z_zret dX11_hands_11 rfl rfl
theorem ct_Fm_hands {g : GG} {d : Nat} {x1 : Int32} {ν : Nm} {r : (Bool × Nm)} (hd0 : 2 ≤ d)  (h : Fm_hands x1 ν = some r) : Ct g d mX11_hands [.ref 0, .int x1] (zem ν) (some (.int (b2i r.1)), zem r.2) := y_entry in_X11_hands (Nat.le_of_ble_eq_true rfl) rfl (t_Fm_hands hd0 x1 ν r h)
-- FuseMinutes.feed(IIIII)I
theorem dX11_feed_0 : decode cX11_feed 0 = .ok (.aload_n 0, 1) := by decide +kernel
theorem dX11_feed_1 : decode cX11_feed 1 = .ok (.getfield 22, 3) := by decide +kernel
theorem dX11_feed_4 : decode cX11_feed 4 = .ok (.getfield 89, 3) := by decide +kernel
theorem dX11_feed_7 : decode cX11_feed 7 = .ok (.bipush 20, 2) := by decide +kernel
theorem dX11_feed_9 : decode cX11_feed 9 = .ok (.iadd, 1) := by decide +kernel
theorem dX11_feed_10 : decode cX11_feed 10 = .ok (.sipush 300, 3) := by decide +kernel
theorem dX11_feed_13 : decode cX11_feed 13 = .ok (.if_icmp .le 5, 3) := by decide +kernel
theorem dX11_feed_16 : decode cX11_feed 16 = .ok (.iconst (-1), 1) := by decide +kernel
theorem dX11_feed_17 : decode cX11_feed 17 = .ok (.ireturn, 1) := by decide +kernel
theorem dX11_feed_18 : decode cX11_feed 18 = .ok (.aload_n 0, 1) := by decide +kernel
theorem dX11_feed_19 : decode cX11_feed 19 = .ok (.getfield 22, 3) := by decide +kernel
theorem dX11_feed_22 : decode cX11_feed 22 = .ok (.iload_n 1, 1) := by decide +kernel
theorem dX11_feed_23 : decode cX11_feed 23 = .ok (.invokevirtual 92, 3) := by decide +kernel
theorem dX11_feed_26 : decode cX11_feed 26 = .ok (.aload_n 0, 1) := by decide +kernel
theorem dX11_feed_27 : decode cX11_feed 27 = .ok (.getfield 22, 3) := by decide +kernel
theorem dX11_feed_30 : decode cX11_feed 30 = .ok (.iload_n 2, 1) := by decide +kernel
theorem dX11_feed_31 : decode cX11_feed 31 = .ok (.invokevirtual 92, 3) := by decide +kernel
theorem dX11_feed_34 : decode cX11_feed 34 = .ok (.aload_n 0, 1) := by decide +kernel
theorem dX11_feed_35 : decode cX11_feed 35 = .ok (.getfield 22, 3) := by decide +kernel
theorem dX11_feed_38 : decode cX11_feed 38 = .ok (.iload_n 3, 1) := by decide +kernel
theorem dX11_feed_39 : decode cX11_feed 39 = .ok (.invokevirtual 92, 3) := by decide +kernel
theorem dX11_feed_42 : decode cX11_feed 42 = .ok (.aload_n 0, 1) := by decide +kernel
theorem dX11_feed_43 : decode cX11_feed 43 = .ok (.getfield 22, 3) := by decide +kernel
theorem dX11_feed_46 : decode cX11_feed 46 = .ok (.iload 4, 2) := by decide +kernel
theorem dX11_feed_48 : decode cX11_feed 48 = .ok (.invokevirtual 92, 3) := by decide +kernel
theorem dX11_feed_51 : decode cX11_feed 51 = .ok (.aload_n 0, 1) := by decide +kernel
theorem dX11_feed_52 : decode cX11_feed 52 = .ok (.getfield 22, 3) := by decide +kernel
theorem dX11_feed_55 : decode cX11_feed 55 = .ok (.iload 5, 2) := by decide +kernel
theorem dX11_feed_57 : decode cX11_feed 57 = .ok (.invokevirtual 92, 3) := by decide +kernel
theorem dX11_feed_60 : decode cX11_feed 60 = .ok (.aload_n 0, 1) := by decide +kernel
theorem dX11_feed_61 : decode cX11_feed 61 = .ok (.getfield 22, 3) := by decide +kernel
theorem dX11_feed_64 : decode cX11_feed 64 = .ok (.getfield 89, 3) := by decide +kernel
theorem dX11_feed_67 : decode cX11_feed 67 = .ok (.ireturn, 1) := by decide +kernel
def Fm_feed (x1 : Int32) (x2 : Int32) (x3 : Int32) (x4 : Int32) (x5 : Int32) (ν : Nm) : Option (Int32 × Nm) :=
  (if ((gi ν 271 1) + (20 : Int32)) ≤ (300 : Int32) then
    (Rd_append x1 ν).bind fun v2 =>
    (Rd_append x2 v2).bind fun v3 =>
    (Rd_append x3 v3).bind fun v4 =>
    (Rd_append x4 v4).bind fun v5 =>
    (Rd_append x5 v5).bind fun v6 =>
    some ((gi v6 271 1), v6)
  else
    some ((-1 : Int32), ν))
set_option maxRecDepth 100000 in
set_option maxHeartbeats 4000000 in
theorem t_Fm_feed {g : GG} {d : Nat} (hd0 : 2 ≤ d) : ∀ (x1 : Int32) (x2 : Int32) (x3 : Int32) (x4 : Int32) (x5 : Int32) (ν : Nm) (r : (Int32 × Nm)), Fm_feed x1 x2 x3 x4 x5 ν = some r → Z g d (0, 0) mX11_feed 333 0 0 0 [(0, .ref 0), (1, .int x1), (2, .int x2), (3, .int x3), (4, .int x4), (5, .int x5)] [] (zem ν) (zF g (some (.int r.1), zem r.2)) := by
  intro x1 x2 x3 x4 x5 ν r h
  unfold Fm_feed at h
  refine z_aload_n dX11_feed_0 0 rfl ?_
  refine y_getR (M := mX11_feed) (r := 271) dX11_feed_1 zk_0 flRX11_22 fr_9_2.1 (fr_9_2.2 _) ?_
  refine y_getI dX11_feed_4 zk_271 flRX11_89 ?_
  refine z_bipush (M := mX11_feed) (v := 20) dX11_feed_7 rfl ?_
  refine z_iadd dX11_feed_9 ?_
  refine z_sipush (M := mX11_feed) (v := 300) dX11_feed_10 rfl ?_
  refine z_icmp_le 18 dX11_feed_13 rfl (fun hc1 => ?_) (fun hc1 => ?_)
  · replace h := oT hc1 h
    refine z_aload_n dX11_feed_18 0 rfl ?_
    refine y_getR (M := mX11_feed) (r := 271) dX11_feed_19 zk_0 flRX11_22 fr_9_2.1 (fr_9_2.2 _) ?_
    refine z_iload_n dX11_feed_22 1 rfl ?_
    obtain ⟨v2, he2, h⟩ := obind h
    refine y_Vv (M := mX11_feed) (Y := mX3_append) (d2 := d - 1) (As := [.int x1]) (st := []) dX11_feed_23 mlRX11_92 cv_X3_append zk_271 (ct_Rd_append (dle (Nat.le_of_ble_eq_true rfl) hd0) he2) (dps (Nat.le_of_ble_eq_true rfl) hd0) rfl rfl (Nat.le_of_ble_eq_true rfl) ?_
    refine z_aload_n dX11_feed_26 0 rfl ?_
    refine y_getR (M := mX11_feed) (r := 271) dX11_feed_27 zk_0 flRX11_22 fr_9_2.1 (fr_9_2.2 _) ?_
    refine z_iload_n dX11_feed_30 2 rfl ?_
    obtain ⟨v3, he3, h⟩ := obind h
    refine y_Vv (M := mX11_feed) (Y := mX3_append) (d2 := d - 1) (As := [.int x2]) (st := []) dX11_feed_31 mlRX11_92 cv_X3_append zk_271 (ct_Rd_append (dle (Nat.le_of_ble_eq_true rfl) hd0) he3) (dps (Nat.le_of_ble_eq_true rfl) hd0) rfl rfl (Nat.le_of_ble_eq_true rfl) ?_
    refine z_aload_n dX11_feed_34 0 rfl ?_
    refine y_getR (M := mX11_feed) (r := 271) dX11_feed_35 zk_0 flRX11_22 fr_9_2.1 (fr_9_2.2 _) ?_
    refine z_iload_n dX11_feed_38 3 rfl ?_
    obtain ⟨v4, he4, h⟩ := obind h
    refine y_Vv (M := mX11_feed) (Y := mX3_append) (d2 := d - 1) (As := [.int x3]) (st := []) dX11_feed_39 mlRX11_92 cv_X3_append zk_271 (ct_Rd_append (dle (Nat.le_of_ble_eq_true rfl) hd0) he4) (dps (Nat.le_of_ble_eq_true rfl) hd0) rfl rfl (Nat.le_of_ble_eq_true rfl) ?_
    refine z_aload_n dX11_feed_42 0 rfl ?_
    refine y_getR (M := mX11_feed) (r := 271) dX11_feed_43 zk_0 flRX11_22 fr_9_2.1 (fr_9_2.2 _) ?_
    refine z_iload dX11_feed_46 4 rfl ?_
    obtain ⟨v5, he5, h⟩ := obind h
    refine y_Vv (M := mX11_feed) (Y := mX3_append) (d2 := d - 1) (As := [.int x4]) (st := []) dX11_feed_48 mlRX11_92 cv_X3_append zk_271 (ct_Rd_append (dle (Nat.le_of_ble_eq_true rfl) hd0) he5) (dps (Nat.le_of_ble_eq_true rfl) hd0) rfl rfl (Nat.le_of_ble_eq_true rfl) ?_
    refine z_aload_n dX11_feed_51 0 rfl ?_
    refine y_getR (M := mX11_feed) (r := 271) dX11_feed_52 zk_0 flRX11_22 fr_9_2.1 (fr_9_2.2 _) ?_
    refine z_iload dX11_feed_55 5 rfl ?_
    obtain ⟨v6, he6, h⟩ := obind h
    refine y_Vv (M := mX11_feed) (Y := mX3_append) (d2 := d - 1) (As := [.int x5]) (st := []) dX11_feed_57 mlRX11_92 cv_X3_append zk_271 (ct_Rd_append (dle (Nat.le_of_ble_eq_true rfl) hd0) he6) (dps (Nat.le_of_ble_eq_true rfl) hd0) rfl rfl (Nat.le_of_ble_eq_true rfl) ?_
    refine z_aload_n dX11_feed_60 0 rfl ?_
    refine y_getR (M := mX11_feed) (r := 271) dX11_feed_61 zk_0 flRX11_22 fr_9_2.1 (fr_9_2.2 _) ?_
    refine y_getI dX11_feed_64 zk_271 flRX11_89 ?_
    cases h
    exact z_iret dX11_feed_67 rfl
  · replace h := oF hc1 h
    refine z_iconst (M := mX11_feed) (v := -1) dX11_feed_16 rfl ?_
    cases h
    exact z_iret dX11_feed_17 rfl
theorem ct_Fm_feed {g : GG} {d : Nat} {x1 : Int32} {x2 : Int32} {x3 : Int32} {x4 : Int32} {x5 : Int32} {ν : Nm} {r : (Int32 × Nm)} (hd0 : 2 ≤ d)  (h : Fm_feed x1 x2 x3 x4 x5 ν = some r) : Ct g d mX11_feed [.ref 0, .int x1, .int x2, .int x3, .int x4, .int x5] (zem ν) (some (.int r.1), zem r.2) := y_entry in_X11_feed (Nat.le_of_ble_eq_true rfl) rfl (t_Fm_feed hd0 x1 x2 x3 x4 x5 ν r h)
-- FuseMinutes.end(I)I
theorem dX11_end_0 : decode cX11_end 0 = .ok (.iload_n 1, 1) := by decide +kernel
theorem dX11_end_1 : decode cX11_end 1 = .ok (.iconst 0, 1) := by decide +kernel
theorem dX11_end_2 : decode cX11_end 2 = .ok (.aload_n 0, 1) := by decide +kernel
theorem dX11_end_3 : decode cX11_end 3 = .ok (.getfield 22, 3) := by decide +kernel
theorem dX11_end_6 : decode cX11_end 6 = .ok (.getfield 89, 3) := by decide +kernel
theorem dX11_end_9 : decode cX11_end 9 = .ok (.invokestatic 72, 3) := by decide +kernel
theorem dX11_end_12 : decode cX11_end 12 = .ok (.ifCond .ne 5, 3) := by decide +kernel
theorem dX11_end_15 : decode cX11_end 15 = .ok (.iconst (-1), 1) := by decide +kernel
theorem dX11_end_16 : decode cX11_end 16 = .ok (.ireturn, 1) := by decide +kernel
theorem dX11_end_17 : decode cX11_end 17 = .ok (.aload_n 0, 1) := by decide +kernel
theorem dX11_end_18 : decode cX11_end 18 = .ok (.getfield 22, 3) := by decide +kernel
theorem dX11_end_21 : decode cX11_end 21 = .ok (.iload_n 1, 1) := by decide +kernel
theorem dX11_end_22 : decode cX11_end 22 = .ok (.putfield 89, 3) := by decide +kernel
theorem dX11_end_25 : decode cX11_end 25 = .ok (.iload_n 1, 1) := by decide +kernel
theorem dX11_end_26 : decode cX11_end 26 = .ok (.ireturn, 1) := by decide +kernel
def Fm_end (x1 : Int32) (ν : Nm) : Option (Int32 × Nm) :=
  (Fm_within x1 (0 : Int32) (gi ν 271 1)).bind fun v1 =>
  (if ¬ (b2i v1) = 0 then
    some (x1, (si ν 271 1 x1))
  else
    some ((-1 : Int32), ν))
set_option maxRecDepth 100000 in
set_option maxHeartbeats 4000000 in
theorem t_Fm_end {g : GG} {d : Nat} (hd0 : 2 ≤ d) : ∀ (x1 : Int32) (ν : Nm) (r : (Int32 × Nm)), Fm_end x1 ν = some r → Z g d (0, 0) mX11_end 333 0 0 0 [(0, .ref 0), (1, .int x1)] [] (zem ν) (zF g (some (.int r.1), zem r.2)) := by
  intro x1 ν r h
  unfold Fm_end at h
  refine z_iload_n dX11_end_0 1 rfl ?_
  refine z_iconst (M := mX11_end) (v := 0) dX11_end_1 rfl ?_
  refine z_aload_n dX11_end_2 0 rfl ?_
  refine y_getR (M := mX11_end) (r := 271) dX11_end_3 zk_0 flRX11_22 fr_9_2.1 (fr_9_2.2 _) ?_
  refine y_getI dX11_end_6 zk_271 flRX11_89 ?_
  obtain ⟨v1, he1, h⟩ := obind h
  refine y_Si (M := mX11_end) (Y := mX11_within) (d2 := d - 1) (As := [.int x1, .int (0 : Int32), .int (gi ν 271 1)]) (st := []) dX11_end_9 mlRX11_72 cv_X11_within (ct_Fm_within (dle (Nat.le_of_ble_eq_true rfl) hd0) he1) (dps (Nat.le_of_ble_eq_true rfl) hd0) rfl rfl (Nat.le_of_ble_eq_true rfl) ?_
  refine z_if_ne 17 dX11_end_12 rfl (fun hc2 => ?_) (fun hc2 => ?_)
  · replace h := oT hc2 h
    refine z_aload_n dX11_end_17 0 rfl ?_
    refine y_getR (M := mX11_end) (r := 271) dX11_end_18 zk_0 flRX11_22 fr_9_2.1 (fr_9_2.2 _) ?_
    refine z_iload_n dX11_end_21 1 rfl ?_
    refine y_putI dX11_end_22 zk_271 flRX11_89 ⟨rfl, rfl⟩ ?_
    refine z_iload_n dX11_end_25 1 rfl ?_
    cases h
    exact z_iret dX11_end_26 rfl
  · replace h := oFn hc2 h
    refine z_iconst (M := mX11_end) (v := -1) dX11_end_15 rfl ?_
    cases h
    exact z_iret dX11_end_16 rfl
theorem ct_Fm_end {g : GG} {d : Nat} {x1 : Int32} {ν : Nm} {r : (Int32 × Nm)} (hd0 : 2 ≤ d)  (h : Fm_end x1 ν = some r) : Ct g d mX11_end [.ref 0, .int x1] (zem ν) (some (.int r.1), zem r.2) := y_entry in_X11_end (Nat.le_of_ble_eq_true rfl) rfl (t_Fm_end hd0 x1 ν r h)
-- FuseMinutes.text()I
theorem dX11_text_0 : decode cX11_text 0 = .ok (.aload_n 0, 1) := by decide +kernel
theorem dX11_text_1 : decode cX11_text 1 = .ok (.getfield 12, 3) := by decide +kernel
theorem dX11_text_4 : decode cX11_text 4 = .ok (.getfield 95, 3) := by decide +kernel
theorem dX11_text_7 : decode cX11_text 7 = .ok (.iconst 4, 1) := by decide +kernel
theorem dX11_text_8 : decode cX11_text 8 = .ok (.if_icmp .lt 5, 3) := by decide +kernel
theorem dX11_text_11 : decode cX11_text 11 = .ok (.iconst (-1), 1) := by decide +kernel
theorem dX11_text_12 : decode cX11_text 12 = .ok (.ireturn, 1) := by decide +kernel
theorem dX11_text_13 : decode cX11_text 13 = .ok (.aload_n 0, 1) := by decide +kernel
theorem dX11_text_14 : decode cX11_text 14 = .ok (.getfield 22, 3) := by decide +kernel
theorem dX11_text_17 : decode cX11_text 17 = .ok (.aload_n 0, 1) := by decide +kernel
theorem dX11_text_18 : decode cX11_text 18 = .ok (.getfield 28, 3) := by decide +kernel
theorem dX11_text_21 : decode cX11_text 21 = .ok (.aload_n 0, 1) := by decide +kernel
theorem dX11_text_22 : decode cX11_text 22 = .ok (.getfield 12, 3) := by decide +kernel
theorem dX11_text_25 : decode cX11_text 25 = .ok (.getfield 95, 3) := by decide +kernel
theorem dX11_text_28 : decode cX11_text 28 = .ok (.aaload, 1) := by decide +kernel
theorem dX11_text_29 : decode cX11_text 29 = .ok (.invokevirtual 97, 3) := by decide +kernel
theorem dX11_text_32 : decode cX11_text 32 = .ok (.aload_n 0, 1) := by decide +kernel
theorem dX11_text_33 : decode cX11_text 33 = .ok (.getfield 22, 3) := by decide +kernel
theorem dX11_text_36 : decode cX11_text 36 = .ok (.iconst 0, 1) := by decide +kernel
theorem dX11_text_37 : decode cX11_text 37 = .ok (.putfield 89, 3) := by decide +kernel
theorem dX11_text_40 : decode cX11_text 40 = .ok (.aload_n 0, 1) := by decide +kernel
theorem dX11_text_41 : decode cX11_text 41 = .ok (.getfield 22, 3) := by decide +kernel
theorem dX11_text_44 : decode cX11_text 44 = .ok (.getfield 101, 3) := by decide +kernel
theorem dX11_text_47 : decode cX11_text 47 = .ok (.ifCond .eq 5, 3) := by decide +kernel
theorem dX11_text_50 : decode cX11_text 50 = .ok (.iconst (-1), 1) := by decide +kernel
theorem dX11_text_51 : decode cX11_text 51 = .ok (.ireturn, 1) := by decide +kernel
theorem dX11_text_52 : decode cX11_text 52 = .ok (.aload_n 0, 1) := by decide +kernel
theorem dX11_text_53 : decode cX11_text 53 = .ok (.getfield 12, 3) := by decide +kernel
theorem dX11_text_56 : decode cX11_text 56 = .ok (.dup, 1) := by decide +kernel
theorem dX11_text_57 : decode cX11_text 57 = .ok (.getfield 95, 3) := by decide +kernel
theorem dX11_text_60 : decode cX11_text 60 = .ok (.iconst 1, 1) := by decide +kernel
theorem dX11_text_61 : decode cX11_text 61 = .ok (.iadd, 1) := by decide +kernel
theorem dX11_text_62 : decode cX11_text 62 = .ok (.putfield 95, 3) := by decide +kernel
theorem dX11_text_65 : decode cX11_text 65 = .ok (.aload_n 0, 1) := by decide +kernel
theorem dX11_text_66 : decode cX11_text 66 = .ok (.getfield 12, 3) := by decide +kernel
theorem dX11_text_69 : decode cX11_text 69 = .ok (.getfield 95, 3) := by decide +kernel
theorem dX11_text_72 : decode cX11_text 72 = .ok (.iconst 1, 1) := by decide +kernel
theorem dX11_text_73 : decode cX11_text 73 = .ok (.isub, 1) := by decide +kernel
theorem dX11_text_74 : decode cX11_text 74 = .ok (.ireturn, 1) := by decide +kernel
def Fm_text (ν : Nm) : Option (Int32 × Nm) :=
  (if (gi ν 1 6) < (4 : Int32) then
    if inb (gi ν 1 6) 4 then
    (Rd_readInto (285 + 7 * (gi ν 1 6).toNatClampNeg) ν).bind fun v3 =>
    (if (gi (si v3 271 1 (0 : Int32)) 271 2) = 0 then
      some (((gi (si (si v3 271 1 (0 : Int32)) 1 6 ((gi (si v3 271 1 (0 : Int32)) 1 6) + (1 : Int32))) 1 6) - (1 : Int32)), (si (si v3 271 1 (0 : Int32)) 1 6 ((gi (si v3 271 1 (0 : Int32)) 1 6) + (1 : Int32))))
    else
      some ((-1 : Int32), (si v3 271 1 (0 : Int32))))
    else none
  else
    some ((-1 : Int32), ν))
set_option maxRecDepth 100000 in
set_option maxHeartbeats 4000000 in
theorem t_Fm_text {g : GG} {d : Nat} (hd0 : 213 ≤ d) : ∀ (ν : Nm) (r : (Int32 × Nm)), Fm_text ν = some r → Z g d (0, 0) mX11_text 333 0 0 0 [(0, .ref 0)] [] (zem ν) (zF g (some (.int r.1), zem r.2)) := by
  intro ν r h
  unfold Fm_text at h
  refine z_aload_n dX11_text_0 0 rfl ?_
  refine y_getR (M := mX11_text) (r := 1) dX11_text_1 zk_0 flRX11_12 fr_9_0.1 (fr_9_0.2 _) ?_
  refine y_getI dX11_text_4 zk_1 flRX11_95 ?_
  refine z_iconst (M := mX11_text) (v := 4) dX11_text_7 rfl ?_
  refine z_icmp_lt 13 dX11_text_8 rfl (fun hc1 => ?_) (fun hc1 => ?_)
  · replace h := oT hc1 h
    refine z_aload_n dX11_text_13 0 rfl ?_
    refine y_getR (M := mX11_text) (r := 271) dX11_text_14 zk_0 flRX11_22 fr_9_2.1 (fr_9_2.2 _) ?_
    refine z_aload_n dX11_text_17 0 rfl ?_
    refine y_getR (M := mX11_text) (r := 273) dX11_text_18 zk_0 flRX11_28 fr_9_3.1 (fr_9_3.2 _) ?_
    refine z_aload_n dX11_text_21 0 rfl ?_
    refine y_getR (M := mX11_text) (r := 1) dX11_text_22 zk_0 flRX11_12 fr_9_0.1 (fr_9_0.2 _) ?_
    refine y_getI dX11_text_25 zk_1 flRX11_95 ?_
    obtain ⟨hi2, h⟩ := oif h
    refine y_aaldT dX11_text_28 zk_273 hi2 ?_
    obtain ⟨v3, he3, h⟩ := obind h
    refine y_Vv (M := mX11_text) (Y := mX3_readInto) (d2 := d - 1) (As := [.ref (285 + 7 * (gi ν 1 6).toNatClampNeg)]) (st := []) dX11_text_29 mlRX11_97 cv_X3_readInto zk_271 (ct_Rd_readInto (dle (Nat.le_of_ble_eq_true rfl) hd0) (zkoT hi2) he3) (dps (Nat.le_of_ble_eq_true rfl) hd0) rfl rfl (Nat.le_of_ble_eq_true rfl) ?_
    refine z_aload_n dX11_text_32 0 rfl ?_
    refine y_getR (M := mX11_text) (r := 271) dX11_text_33 zk_0 flRX11_22 fr_9_2.1 (fr_9_2.2 _) ?_
    refine z_iconst (M := mX11_text) (v := 0) dX11_text_36 rfl ?_
    refine y_putI dX11_text_37 zk_271 flRX11_89 ⟨rfl, rfl⟩ ?_
    refine z_aload_n dX11_text_40 0 rfl ?_
    refine y_getR (M := mX11_text) (r := 271) dX11_text_41 zk_0 flRX11_22 fr_9_2.1 (fr_9_2.2 _) ?_
    refine y_getI dX11_text_44 zk_271 flRX11_101 ?_
    refine z_if_eq 52 dX11_text_47 rfl (fun hc4 => ?_) (fun hc4 => ?_)
    · replace h := oT hc4 h
      refine z_aload_n dX11_text_52 0 rfl ?_
      refine y_getR (M := mX11_text) (r := 1) dX11_text_53 zk_0 flRX11_12 fr_9_0.1 (fr_9_0.2 _) ?_
      refine z_dup dX11_text_56 rfl ?_
      refine y_getI dX11_text_57 zk_1 flRX11_95 ?_
      refine z_iconst (M := mX11_text) (v := 1) dX11_text_60 rfl ?_
      refine z_iadd dX11_text_61 ?_
      refine y_putI dX11_text_62 zk_1 flRX11_95 ⟨rfl, rfl⟩ ?_
      refine z_aload_n dX11_text_65 0 rfl ?_
      refine y_getR (M := mX11_text) (r := 1) dX11_text_66 zk_0 flRX11_12 fr_9_0.1 (fr_9_0.2 _) ?_
      refine y_getI dX11_text_69 zk_1 flRX11_95 ?_
      refine z_iconst (M := mX11_text) (v := 1) dX11_text_72 rfl ?_
      refine z_isub dX11_text_73 ?_
      cases h
      exact z_iret dX11_text_74 rfl
    · replace h := oF hc4 h
      refine z_iconst (M := mX11_text) (v := -1) dX11_text_50 rfl ?_
      cases h
      exact z_iret dX11_text_51 rfl
  · replace h := oF hc1 h
    refine z_iconst (M := mX11_text) (v := -1) dX11_text_11 rfl ?_
    cases h
    exact z_iret dX11_text_12 rfl
theorem ct_Fm_text {g : GG} {d : Nat} {ν : Nm} {r : (Int32 × Nm)} (hd0 : 213 ≤ d)  (h : Fm_text ν = some r) : Ct g d mX11_text [.ref 0] (zem ν) (some (.int r.1), zem r.2) := y_entry in_X11_text (Nat.le_of_ble_eq_true rfl) rfl (t_Fm_text hd0 ν r h)
-- FuseMinutes.fault(I)I
theorem dX11_fault_0 : decode cX11_fault 0 = .ok (.iload_n 1, 1) := by decide +kernel
theorem dX11_fault_1 : decode cX11_fault 1 = .ok (.ifCond .ne 11, 3) := by decide +kernel
theorem dX11_fault_4 : decode cX11_fault 4 = .ok (.aload_n 0, 1) := by decide +kernel
theorem dX11_fault_5 : decode cX11_fault 5 = .ok (.getfield 22, 3) := by decide +kernel
theorem dX11_fault_8 : decode cX11_fault 8 = .ok (.getfield 101, 3) := by decide +kernel
theorem dX11_fault_11 : decode cX11_fault 11 = .ok (.ireturn, 1) := by decide +kernel
theorem dX11_fault_12 : decode cX11_fault 12 = .ok (.iload_n 1, 1) := by decide +kernel
theorem dX11_fault_13 : decode cX11_fault 13 = .ok (.iconst 1, 1) := by decide +kernel
theorem dX11_fault_14 : decode cX11_fault 14 = .ok (.if_icmp .ne 13, 3) := by decide +kernel
theorem dX11_fault_17 : decode cX11_fault 17 = .ok (.aload_n 0, 1) := by decide +kernel
theorem dX11_fault_18 : decode cX11_fault 18 = .ok (.getfield 22, 3) := by decide +kernel
theorem dX11_fault_21 : decode cX11_fault 21 = .ok (.getfield 104, 3) := by decide +kernel
theorem dX11_fault_24 : decode cX11_fault 24 = .ok (.goto 4, 3) := by decide +kernel
theorem dX11_fault_27 : decode cX11_fault 27 = .ok (.iconst (-1), 1) := by decide +kernel
theorem dX11_fault_28 : decode cX11_fault 28 = .ok (.ireturn, 1) := by decide +kernel
def Fm_fault (ν : Nm) (x1 : Int32) : Option Int32 :=
  (if ¬ x1 = 0 then
    (if ¬ x1 = (1 : Int32) then
      some (-1 : Int32)
    else
      some (gi ν 271 3))
  else
    some (gi ν 271 2))
set_option maxRecDepth 100000 in
set_option maxHeartbeats 4000000 in
theorem t_Fm_fault {g : GG} {d : Nat} {ν : Nm} (hd0 : 1 ≤ d) : ∀ (x1 : Int32) (r : Int32), Fm_fault ν x1 = some r → Z g d (0, 0) mX11_fault 333 0 0 0 [(0, .ref 0), (1, .int x1)] [] (zem ν) (zF g (some (.int r), zem ν)) := by
  intro x1 r h
  unfold Fm_fault at h
  refine z_iload_n dX11_fault_0 1 rfl ?_
  refine z_if_ne 12 dX11_fault_1 rfl (fun hc1 => ?_) (fun hc1 => ?_)
  · replace h := oT hc1 h
    refine z_iload_n dX11_fault_12 1 rfl ?_
    refine z_iconst (M := mX11_fault) (v := 1) dX11_fault_13 rfl ?_
    refine z_icmp_ne 27 dX11_fault_14 rfl (fun hc2 => ?_) (fun hc2 => ?_)
    · replace h := oT hc2 h
      refine z_iconst (M := mX11_fault) (v := -1) dX11_fault_27 rfl ?_
      cases h
      exact z_iret dX11_fault_28 rfl
    · replace h := oFn hc2 h
      refine z_aload_n dX11_fault_17 0 rfl ?_
      refine y_getR (M := mX11_fault) (r := 271) dX11_fault_18 zk_0 flRX11_22 fr_9_2.1 (fr_9_2.2 _) ?_
      refine y_getI dX11_fault_21 zk_271 flRX11_104 ?_
      refine z_goto 28 dX11_fault_24 rfl ?_
      cases h
      exact z_iret dX11_fault_28 rfl
  · replace h := oFn hc1 h
    refine z_aload_n dX11_fault_4 0 rfl ?_
    refine y_getR (M := mX11_fault) (r := 271) dX11_fault_5 zk_0 flRX11_22 fr_9_2.1 (fr_9_2.2 _) ?_
    refine y_getI dX11_fault_8 zk_271 flRX11_101 ?_
    cases h
    exact z_iret dX11_fault_11 rfl
theorem ct_Fm_fault {g : GG} {d : Nat} {x1 : Int32} {ν : Nm} {r : Int32} (hd0 : 1 ≤ d)  (h : Fm_fault ν x1 = some r) : Ct g d mX11_fault [.ref 0, .int x1] (zem ν) (some (.int r), zem ν) := y_entry in_X11_fault (Nat.le_of_ble_eq_true rfl) rfl (t_Fm_fault hd0 x1 r h)
-- FuseMinutes.hasText(I)Z
theorem dX11_hasText_0 : decode cX11_hasText 0 = .ok (.iload_n 1, 1) := by decide +kernel
theorem dX11_hasText_1 : decode cX11_hasText 1 = .ok (.ifCond .lt 23, 3) := by decide +kernel
theorem dX11_hasText_4 : decode cX11_hasText 4 = .ok (.iload_n 1, 1) := by decide +kernel
theorem dX11_hasText_5 : decode cX11_hasText 5 = .ok (.aload_n 0, 1) := by decide +kernel
theorem dX11_hasText_6 : decode cX11_hasText 6 = .ok (.getfield 12, 3) := by decide +kernel
theorem dX11_hasText_9 : decode cX11_hasText 9 = .ok (.getfield 95, 3) := by decide +kernel
theorem dX11_hasText_12 : decode cX11_hasText 12 = .ok (.if_icmp .ge 12, 3) := by decide +kernel
theorem dX11_hasText_15 : decode cX11_hasText 15 = .ok (.iload_n 1, 1) := by decide +kernel
theorem dX11_hasText_16 : decode cX11_hasText 16 = .ok (.iconst 4, 1) := by decide +kernel
theorem dX11_hasText_17 : decode cX11_hasText 17 = .ok (.if_icmp .ge 7, 3) := by decide +kernel
theorem dX11_hasText_20 : decode cX11_hasText 20 = .ok (.iconst 1, 1) := by decide +kernel
theorem dX11_hasText_21 : decode cX11_hasText 21 = .ok (.goto 4, 3) := by decide +kernel
theorem dX11_hasText_24 : decode cX11_hasText 24 = .ok (.iconst 0, 1) := by decide +kernel
theorem dX11_hasText_25 : decode cX11_hasText 25 = .ok (.ireturn, 1) := by decide +kernel
def Fm_hasText (ν : Nm) (x1 : Int32) : Option Bool :=
  (if x1 < 0 then
    some false
  else
    (if (gi ν 1 6) ≤ x1 then
      some false
    else
      (if (4 : Int32) ≤ x1 then
        some false
      else
        some true)))
set_option maxRecDepth 100000 in
set_option maxHeartbeats 4000000 in
theorem t_Fm_hasText {g : GG} {d : Nat} {ν : Nm} (hd0 : 1 ≤ d) : ∀ (x1 : Int32) (r : Bool), Fm_hasText ν x1 = some r → Z g d (0, 0) mX11_hasText 333 0 0 0 [(0, .ref 0), (1, .int x1)] [] (zem ν) (zF g (some (.int (b2i r)), zem ν)) := by
  intro x1 r h
  unfold Fm_hasText at h
  refine z_iload_n dX11_hasText_0 1 rfl ?_
  refine z_if_lt 24 dX11_hasText_1 rfl (fun hc1 => ?_) (fun hc1 => ?_)
  · replace h := oT hc1 h
    refine z_iconst (M := mX11_hasText) (v := 0) dX11_hasText_24 rfl ?_
    cases h
    exact z_zret dX11_hasText_25 rfl rfl
  · replace h := oF hc1 h
    refine z_iload_n dX11_hasText_4 1 rfl ?_
    refine z_aload_n dX11_hasText_5 0 rfl ?_
    refine y_getR (M := mX11_hasText) (r := 1) dX11_hasText_6 zk_0 flRX11_12 fr_9_0.1 (fr_9_0.2 _) ?_
    refine y_getI dX11_hasText_9 zk_1 flRX11_95 ?_
    refine z_icmp_ge 24 dX11_hasText_12 rfl (fun hc2 => ?_) (fun hc2 => ?_)
    · replace h := oT hc2 h
      refine z_iconst (M := mX11_hasText) (v := 0) dX11_hasText_24 rfl ?_
      cases h
      exact z_zret dX11_hasText_25 rfl rfl
    · replace h := oF hc2 h
      refine z_iload_n dX11_hasText_15 1 rfl ?_
      refine z_iconst (M := mX11_hasText) (v := 4) dX11_hasText_16 rfl ?_
      refine z_icmp_ge 24 dX11_hasText_17 rfl (fun hc3 => ?_) (fun hc3 => ?_)
      · replace h := oT hc3 h
        refine z_iconst (M := mX11_hasText) (v := 0) dX11_hasText_24 rfl ?_
        cases h
        exact z_zret dX11_hasText_25 rfl rfl
      · replace h := oF hc3 h
        refine z_iconst (M := mX11_hasText) (v := 1) dX11_hasText_20 rfl ?_
        refine z_goto 25 dX11_hasText_21 rfl ?_
        cases h
        exact z_zret dX11_hasText_25 rfl rfl
theorem ct_Fm_hasText {g : GG} {d : Nat} {x1 : Int32} {ν : Nm} {r : Bool} (hd0 : 1 ≤ d)  (h : Fm_hasText ν x1 = some r) : Ct g d mX11_hasText [.ref 0, .int x1] (zem ν) (some (.int (b2i r)), zem ν) := y_entry in_X11_hasText (Nat.le_of_ble_eq_true rfl) rfl (t_Fm_hasText hd0 x1 r h)
-- FuseMinutes.by(I)Z
theorem dX11_by_0 : decode cX11_by 0 = .ok (.iload_n 1, 1) := by decide +kernel
theorem dX11_by_1 : decode cX11_by 1 = .ok (.iconst (-1), 1) := by decide +kernel
theorem dX11_by_2 : decode cX11_by 2 = .ok (.if_icmp .eq 13, 3) := by decide +kernel
theorem dX11_by_5 : decode cX11_by 5 = .ok (.aload_n 0, 1) := by decide +kernel
theorem dX11_by_6 : decode cX11_by 6 = .ok (.iload_n 1, 1) := by decide +kernel
theorem dX11_by_7 : decode cX11_by 7 = .ok (.invokevirtual 107, 3) := by decide +kernel
theorem dX11_by_10 : decode cX11_by 10 = .ok (.ifCond .ne 5, 3) := by decide +kernel
theorem dX11_by_13 : decode cX11_by 13 = .ok (.iconst 0, 1) := by decide +kernel
theorem dX11_by_14 : decode cX11_by 14 = .ok (.ireturn, 1) := by decide +kernel
theorem dX11_by_15 : decode cX11_by 15 = .ok (.aload_n 0, 1) := by decide +kernel
theorem dX11_by_16 : decode cX11_by 16 = .ok (.getfield 12, 3) := by decide +kernel
theorem dX11_by_19 : decode cX11_by 19 = .ok (.iload_n 1, 1) := by decide +kernel
theorem dX11_by_20 : decode cX11_by 20 = .ok (.putfield 111, 3) := by decide +kernel
theorem dX11_by_23 : decode cX11_by 23 = .ok (.iconst 1, 1) := by decide +kernel
theorem dX11_by_24 : decode cX11_by 24 = .ok (.ireturn, 1) := by decide +kernel
def Fm_by_15 (x1 : Int32) (ν : Nm) : Option (Bool × Nm) :=
  some (true, (si ν 1 7 x1))
set_option maxRecDepth 100000 in
set_option maxHeartbeats 4000000 in
theorem t_Fm_by_15 {g : GG} {d : Nat} (hd0 : 2 ≤ d) : ∀ (x1 : Int32) (ν : Nm) (r : (Bool × Nm)), Fm_by_15 x1 ν = some r → Z g d (0, 0) mX11_by 333 0 0 15 [(0, .ref 0), (1, .int x1)] [] (zem ν) (zF g (some (.int (b2i r.1)), zem r.2)) := by
  intro x1 ν r h
  unfold Fm_by_15 at h
  refine z_aload_n dX11_by_15 0 rfl ?_
  refine y_getR (M := mX11_by) (r := 1) dX11_by_16 zk_0 flRX11_12 fr_9_0.1 (fr_9_0.2 _) ?_
  refine z_iload_n dX11_by_19 1 rfl ?_
  refine y_putI dX11_by_20 zk_1 flRX11_111 ⟨rfl, rfl⟩ ?_
  refine z_iconst (M := mX11_by) (v := 1) dX11_by_23 rfl ?_
  cases h
  exact z_zret dX11_by_24 rfl rfl
def Fm_by (x1 : Int32) (ν : Nm) : Option (Bool × Nm) :=
  (if x1 = (-1 : Int32) then
    Fm_by_15 x1 ν
  else
    (Fm_hasText ν x1).bind fun v2 =>
    (if ¬ (b2i v2) = 0 then
      Fm_by_15 x1 ν
    else
      some (false, ν)))
set_option maxRecDepth 100000 in
set_option maxHeartbeats 4000000 in
theorem t_Fm_by {g : GG} {d : Nat} (hd0 : 2 ≤ d) : ∀ (x1 : Int32) (ν : Nm) (r : (Bool × Nm)), Fm_by x1 ν = some r → Z g d (0, 0) mX11_by 333 0 0 0 [(0, .ref 0), (1, .int x1)] [] (zem ν) (zF g (some (.int (b2i r.1)), zem r.2)) := by
  intro x1 ν r h
  unfold Fm_by at h
  refine z_iload_n dX11_by_0 1 rfl ?_
  refine z_iconst (M := mX11_by) (v := -1) dX11_by_1 rfl ?_
  refine z_icmp_eq 15 dX11_by_2 rfl (fun hc1 => ?_) (fun hc1 => ?_)
  · replace h := oT hc1 h
    exact t_Fm_by_15 hd0  x1 ν _ h
  · replace h := oF hc1 h
    refine z_aload_n dX11_by_5 0 rfl ?_
    refine z_iload_n dX11_by_6 1 rfl ?_
    obtain ⟨v2, he2, h⟩ := obind h
    refine y_Vi (M := mX11_by) (Y := mX11_hasText) (d2 := d - 1) (As := [.int x1]) (st := []) dX11_by_7 mlRX11_107 cv_X11_hasText zk_0 (ct_Fm_hasText (dle (Nat.le_of_ble_eq_true rfl) hd0) he2) (dps (Nat.le_of_ble_eq_true rfl) hd0) rfl rfl (Nat.le_of_ble_eq_true rfl) ?_
    refine z_if_ne 15 dX11_by_10 rfl (fun hc3 => ?_) (fun hc3 => ?_)
    · replace h := oT hc3 h
      exact t_Fm_by_15 hd0  x1 ν _ h
    · replace h := oFn hc3 h
      refine z_iconst (M := mX11_by) (v := 0) dX11_by_13 rfl ?_
      cases h
      exact z_zret dX11_by_14 rfl rfl
theorem ct_Fm_by {g : GG} {d : Nat} {x1 : Int32} {ν : Nm} {r : (Bool × Nm)} (hd0 : 2 ≤ d)  (h : Fm_by x1 ν = some r) : Ct g d mX11_by [.ref 0, .int x1] (zem ν) (some (.int (b2i r.1)), zem r.2) := y_entry in_X11_by (Nat.le_of_ble_eq_true rfl) rfl (t_Fm_by hd0 x1 ν r h)
-- FuseMinutes.lightsSays(II)I
theorem dX11_lightsSays_0 : decode cX11_lightsSays 0 = .ok (.aload_n 0, 1) := by decide +kernel
theorem dX11_lightsSays_1 : decode cX11_lightsSays 1 = .ok (.aload_n 0, 1) := by decide +kernel
theorem dX11_lightsSays_2 : decode cX11_lightsSays 2 = .ok (.getfield 12, 3) := by decide +kernel
theorem dX11_lightsSays_5 : decode cX11_lightsSays 5 = .ok (.getfield 111, 3) := by decide +kernel
theorem dX11_lightsSays_8 : decode cX11_lightsSays 8 = .ok (.invokevirtual 107, 3) := by decide +kernel
theorem dX11_lightsSays_11 : decode cX11_lightsSays 11 = .ok (.ifCond .eq 22, 3) := by decide +kernel
theorem dX11_lightsSays_14 : decode cX11_lightsSays 14 = .ok (.aload_n 0, 1) := by decide +kernel
theorem dX11_lightsSays_15 : decode cX11_lightsSays 15 = .ok (.getfield 28, 3) := by decide +kernel
theorem dX11_lightsSays_18 : decode cX11_lightsSays 18 = .ok (.aload_n 0, 1) := by decide +kernel
theorem dX11_lightsSays_19 : decode cX11_lightsSays 19 = .ok (.getfield 12, 3) := by decide +kernel
theorem dX11_lightsSays_22 : decode cX11_lightsSays 22 = .ok (.getfield 111, 3) := by decide +kernel
theorem dX11_lightsSays_25 : decode cX11_lightsSays 25 = .ok (.aaload, 1) := by decide +kernel
theorem dX11_lightsSays_26 : decode cX11_lightsSays 26 = .ok (.iconst 0, 1) := by decide +kernel
theorem dX11_lightsSays_27 : decode cX11_lightsSays 27 = .ok (.invokevirtual 349, 3) := by decide +kernel
theorem dX11_lightsSays_30 : decode cX11_lightsSays 30 = .ok (.ifCond .ne 5, 3) := by decide +kernel
theorem dX11_lightsSays_33 : decode cX11_lightsSays 33 = .ok (.iconst 1, 1) := by decide +kernel
theorem dX11_lightsSays_34 : decode cX11_lightsSays 34 = .ok (.ireturn, 1) := by decide +kernel
theorem dX11_lightsSays_35 : decode cX11_lightsSays 35 = .ok (.aload_n 0, 1) := by decide +kernel
theorem dX11_lightsSays_36 : decode cX11_lightsSays 36 = .ok (.getfield 37, 3) := by decide +kernel
theorem dX11_lightsSays_39 : decode cX11_lightsSays 39 = .ok (.aload_n 0, 1) := by decide +kernel
theorem dX11_lightsSays_40 : decode cX11_lightsSays 40 = .ok (.getfield 28, 3) := by decide +kernel
theorem dX11_lightsSays_43 : decode cX11_lightsSays 43 = .ok (.aload_n 0, 1) := by decide +kernel
theorem dX11_lightsSays_44 : decode cX11_lightsSays 44 = .ok (.getfield 12, 3) := by decide +kernel
theorem dX11_lightsSays_47 : decode cX11_lightsSays 47 = .ok (.getfield 111, 3) := by decide +kernel
theorem dX11_lightsSays_50 : decode cX11_lightsSays 50 = .ok (.aaload, 1) := by decide +kernel
theorem dX11_lightsSays_51 : decode cX11_lightsSays 51 = .ok (.iconst 0, 1) := by decide +kernel
theorem dX11_lightsSays_52 : decode cX11_lightsSays 52 = .ok (.iload_n 1, 1) := by decide +kernel
theorem dX11_lightsSays_53 : decode cX11_lightsSays 53 = .ok (.iload_n 2, 1) := by decide +kernel
theorem dX11_lightsSays_54 : decode cX11_lightsSays 54 = .ok (.invokevirtual 352, 3) := by decide +kernel
theorem dX11_lightsSays_57 : decode cX11_lightsSays 57 = .ok (.istore_n 3, 1) := by decide +kernel
theorem dX11_lightsSays_58 : decode cX11_lightsSays 58 = .ok (.bipush (-99), 2) := by decide +kernel
theorem dX11_lightsSays_60 : decode cX11_lightsSays 60 = .ok (.bipush 99, 2) := by decide +kernel
theorem dX11_lightsSays_62 : decode cX11_lightsSays 62 = .ok (.iload_n 3, 1) := by decide +kernel
theorem dX11_lightsSays_63 : decode cX11_lightsSays 63 = .ok (.invokestatic 356, 3) := by decide +kernel
theorem dX11_lightsSays_66 : decode cX11_lightsSays 66 = .ok (.invokestatic 228, 3) := by decide +kernel
theorem dX11_lightsSays_69 : decode cX11_lightsSays 69 = .ok (.ireturn, 1) := by decide +kernel
def Fm_lightsSays (x1 : Int32) (x2 : Int32) (ν : Nm) : Option (Int32 × Nm) :=
  (Fm_hasText ν (gi ν 1 7)).bind fun v1 =>
  (if (b2i v1) = 0 then
    some ((1 : Int32), ν)
  else
    if inb (gi ν 1 7) 4 then
    (Tx_rules ν (285 + 7 * (gi ν 1 7).toNatClampNeg) (0 : Int32)).bind fun v4 =>
    (if ¬ (b2i v4) = 0 then
      if inb (gi ν 1 7) 4 then
      (Su_valueOf (285 + 7 * (gi ν 1 7).toNatClampNeg) (0 : Int32) x1 x2 ν).bind fun v7 =>
      some ((imax (-99 : Int32) (imin (99 : Int32) v7.1)), v7.2)
      else none
    else
      some ((1 : Int32), ν))
    else none)
set_option maxRecDepth 100000 in
set_option maxHeartbeats 4000000 in
theorem t_Fm_lightsSays {g : GG} {d : Nat} (hd0 : 4 ≤ d) : ∀ (x1 : Int32) (x2 : Int32) (ν : Nm) (r : (Int32 × Nm)), Fm_lightsSays x1 x2 ν = some r → Z g d (0, 0) mX11_lightsSays 333 0 0 0 [(0, .ref 0), (1, .int x1), (2, .int x2)] [] (zem ν) (zF g (some (.int r.1), zem r.2)) := by
  intro x1 x2 ν r h
  unfold Fm_lightsSays at h
  refine z_aload_n dX11_lightsSays_0 0 rfl ?_
  refine z_aload_n dX11_lightsSays_1 0 rfl ?_
  refine y_getR (M := mX11_lightsSays) (r := 1) dX11_lightsSays_2 zk_0 flRX11_12 fr_9_0.1 (fr_9_0.2 _) ?_
  refine y_getI dX11_lightsSays_5 zk_1 flRX11_111 ?_
  obtain ⟨v1, he1, h⟩ := obind h
  refine y_Vi (M := mX11_lightsSays) (Y := mX11_hasText) (d2 := d - 1) (As := [.int (gi ν 1 7)]) (st := []) dX11_lightsSays_8 mlRX11_107 cv_X11_hasText zk_0 (ct_Fm_hasText (dle (Nat.le_of_ble_eq_true rfl) hd0) he1) (dps (Nat.le_of_ble_eq_true rfl) hd0) rfl rfl (Nat.le_of_ble_eq_true rfl) ?_
  refine z_if_eq 33 dX11_lightsSays_11 rfl (fun hc2 => ?_) (fun hc2 => ?_)
  · replace h := oT hc2 h
    refine z_iconst (M := mX11_lightsSays) (v := 1) dX11_lightsSays_33 rfl ?_
    cases h
    exact z_iret dX11_lightsSays_34 rfl
  · replace h := oF hc2 h
    refine z_aload_n dX11_lightsSays_14 0 rfl ?_
    refine y_getR (M := mX11_lightsSays) (r := 273) dX11_lightsSays_15 zk_0 flRX11_28 fr_9_3.1 (fr_9_3.2 _) ?_
    refine z_aload_n dX11_lightsSays_18 0 rfl ?_
    refine y_getR (M := mX11_lightsSays) (r := 1) dX11_lightsSays_19 zk_0 flRX11_12 fr_9_0.1 (fr_9_0.2 _) ?_
    refine y_getI dX11_lightsSays_22 zk_1 flRX11_111 ?_
    obtain ⟨hi3, h⟩ := oif h
    refine y_aaldT dX11_lightsSays_25 zk_273 hi3 ?_
    refine z_iconst (M := mX11_lightsSays) (v := 0) dX11_lightsSays_26 rfl ?_
    obtain ⟨v4, he4, h⟩ := obind h
    refine y_Vi (M := mX11_lightsSays) (Y := mX9_rules) (d2 := d - 1) (As := [.int (0 : Int32)]) (st := []) dX11_lightsSays_27 mlRX11_349 cv_X9_rules (zkoT hi3) (ct_Tx_rules (dle (Nat.le_of_ble_eq_true rfl) hd0) (zkoT hi3) he4) (dps (Nat.le_of_ble_eq_true rfl) hd0) rfl rfl (Nat.le_of_ble_eq_true rfl) ?_
    refine z_if_ne 35 dX11_lightsSays_30 rfl (fun hc5 => ?_) (fun hc5 => ?_)
    · replace h := oT hc5 h
      refine z_aload_n dX11_lightsSays_35 0 rfl ?_
      refine y_getR (M := mX11_lightsSays) (r := 274) dX11_lightsSays_36 zk_0 flRX11_37 fr_9_4.1 (fr_9_4.2 _) ?_
      refine z_aload_n dX11_lightsSays_39 0 rfl ?_
      refine y_getR (M := mX11_lightsSays) (r := 273) dX11_lightsSays_40 zk_0 flRX11_28 fr_9_3.1 (fr_9_3.2 _) ?_
      refine z_aload_n dX11_lightsSays_43 0 rfl ?_
      refine y_getR (M := mX11_lightsSays) (r := 1) dX11_lightsSays_44 zk_0 flRX11_12 fr_9_0.1 (fr_9_0.2 _) ?_
      refine y_getI dX11_lightsSays_47 zk_1 flRX11_111 ?_
      obtain ⟨hi6, h⟩ := oif h
      refine y_aaldT dX11_lightsSays_50 zk_273 hi6 ?_
      refine z_iconst (M := mX11_lightsSays) (v := 0) dX11_lightsSays_51 rfl ?_
      refine z_iload_n dX11_lightsSays_52 1 rfl ?_
      refine z_iload_n dX11_lightsSays_53 2 rfl ?_
      obtain ⟨v7, he7, h⟩ := obind h
      refine y_Vi (M := mX11_lightsSays) (Y := mX7_valueOf) (d2 := d - 1) (As := [.ref (285 + 7 * (gi ν 1 7).toNatClampNeg), .int (0 : Int32), .int x1, .int x2]) (st := []) dX11_lightsSays_54 mlRX11_352 cv_X7_valueOf zk_274 (ct_Su_valueOf (dle (Nat.le_of_ble_eq_true rfl) hd0) (zkoT hi6) he7) (dps (Nat.le_of_ble_eq_true rfl) hd0) rfl rfl (Nat.le_of_ble_eq_true rfl) ?_
      refine z_istore_n (M := mX11_lightsSays) (lv2 := [(3, .int v7.1), (0, .ref 0), (1, .int x1), (2, .int x2)]) dX11_lightsSays_57 (Nat.le_of_ble_eq_true rfl) rfl ?_
      refine z_bipush (M := mX11_lightsSays) (v := -99) dX11_lightsSays_58 rfl ?_
      refine z_bipush (M := mX11_lightsSays) (v := 99) dX11_lightsSays_60 rfl ?_
      refine z_iload_n dX11_lightsSays_62 0 rfl ?_
      refine y_mmin dX11_lightsSays_63 mlRX11_356 mw_mmin (Nat.le_trans (Nat.le_of_ble_eq_true rfl) hd0) (Nat.le_of_ble_eq_true rfl) ?_
      refine y_mmax dX11_lightsSays_66 mlRX11_228 mw_mmax (Nat.le_trans (Nat.le_of_ble_eq_true rfl) hd0) (Nat.le_of_ble_eq_true rfl) ?_
      cases h
      exact z_iret dX11_lightsSays_69 rfl
    · replace h := oFn hc5 h
      refine z_iconst (M := mX11_lightsSays) (v := 1) dX11_lightsSays_33 rfl ?_
      cases h
      exact z_iret dX11_lightsSays_34 rfl
theorem ct_Fm_lightsSays {g : GG} {d : Nat} {x1 : Int32} {x2 : Int32} {ν : Nm} {r : (Int32 × Nm)} (hd0 : 4 ≤ d)  (h : Fm_lightsSays x1 x2 ν = some r) : Ct g d mX11_lightsSays [.ref 0, .int x1, .int x2] (zem ν) (some (.int r.1), zem r.2) := y_entry in_X11_lightsSays (Nat.le_of_ble_eq_true rfl) rfl (t_Fm_lightsSays hd0 x1 x2 ν r h)
-- FuseMinutes.canLight(II)Z
theorem dX11_canLight_0 : decode cX11_canLight 0 = .ok (.aload_n 0, 1) := by decide +kernel
theorem dX11_canLight_1 : decode cX11_canLight 1 = .ok (.getfield 12, 3) := by decide +kernel
theorem dX11_canLight_4 : decode cX11_canLight 4 = .ok (.getfield 62, 3) := by decide +kernel
theorem dX11_canLight_7 : decode cX11_canLight 7 = .ok (.astore_n 3, 1) := by decide +kernel
theorem dX11_canLight_8 : decode cX11_canLight 8 = .ok (.aload_n 3, 1) := by decide +kernel
theorem dX11_canLight_9 : decode cX11_canLight 9 = .ok (.iload_n 1, 1) := by decide +kernel
theorem dX11_canLight_10 : decode cX11_canLight 10 = .ok (.invokevirtual 190, 3) := by decide +kernel
theorem dX11_canLight_13 : decode cX11_canLight 13 = .ok (.ifCond .eq 21, 3) := by decide +kernel
theorem dX11_canLight_16 : decode cX11_canLight 16 = .ok (.aload_n 3, 1) := by decide +kernel
theorem dX11_canLight_17 : decode cX11_canLight 17 = .ok (.getfield 193, 3) := by decide +kernel
theorem dX11_canLight_20 : decode cX11_canLight 20 = .ok (.iload_n 1, 1) := by decide +kernel
theorem dX11_canLight_21 : decode cX11_canLight 21 = .ok (.iaload, 1) := by decide +kernel
theorem dX11_canLight_22 : decode cX11_canLight 22 = .ok (.ifCond .eq 12, 3) := by decide +kernel
theorem dX11_canLight_25 : decode cX11_canLight 25 = .ok (.aload_n 3, 1) := by decide +kernel
theorem dX11_canLight_26 : decode cX11_canLight 26 = .ok (.iload_n 1, 1) := by decide +kernel
theorem dX11_canLight_27 : decode cX11_canLight 27 = .ok (.iload_n 2, 1) := by decide +kernel
theorem dX11_canLight_28 : decode cX11_canLight 28 = .ok (.invokevirtual 132, 3) := by decide +kernel
theorem dX11_canLight_31 : decode cX11_canLight 31 = .ok (.ifCond .eq 5, 3) := by decide +kernel
theorem dX11_canLight_34 : decode cX11_canLight 34 = .ok (.iconst 0, 1) := by decide +kernel
theorem dX11_canLight_35 : decode cX11_canLight 35 = .ok (.ireturn, 1) := by decide +kernel
theorem dX11_canLight_36 : decode cX11_canLight 36 = .ok (.aload_n 3, 1) := by decide +kernel
theorem dX11_canLight_37 : decode cX11_canLight 37 = .ok (.getfield 208, 3) := by decide +kernel
theorem dX11_canLight_40 : decode cX11_canLight 40 = .ok (.aload_n 0, 1) := by decide +kernel
theorem dX11_canLight_41 : decode cX11_canLight 41 = .ok (.getfield 12, 3) := by decide +kernel
theorem dX11_canLight_44 : decode cX11_canLight 44 = .ok (.getfield 86, 3) := by decide +kernel
theorem dX11_canLight_47 : decode cX11_canLight 47 = .ok (.if_icmp .ge 16, 3) := by decide +kernel
theorem dX11_canLight_50 : decode cX11_canLight 50 = .ok (.aload_n 0, 1) := by decide +kernel
theorem dX11_canLight_51 : decode cX11_canLight 51 = .ok (.iload_n 1, 1) := by decide +kernel
theorem dX11_canLight_52 : decode cX11_canLight 52 = .ok (.iload_n 2, 1) := by decide +kernel
theorem dX11_canLight_53 : decode cX11_canLight 53 = .ok (.invokevirtual 202, 3) := by decide +kernel
theorem dX11_canLight_56 : decode cX11_canLight 56 = .ok (.ifCond .le 7, 3) := by decide +kernel
theorem dX11_canLight_59 : decode cX11_canLight 59 = .ok (.iconst 1, 1) := by decide +kernel
theorem dX11_canLight_60 : decode cX11_canLight 60 = .ok (.goto 4, 3) := by decide +kernel
theorem dX11_canLight_63 : decode cX11_canLight 63 = .ok (.iconst 0, 1) := by decide +kernel
theorem dX11_canLight_64 : decode cX11_canLight 64 = .ok (.ireturn, 1) := by decide +kernel
def Fm_canLight (x1 : Int32) (x2 : Int32) (ν : Nm) : Option (Bool × Nm) :=
  (Pt_has ν 2 x1).bind fun v1 =>
  (if (b2i v1) = 0 then
    some (false, ν)
  else
    if inb x1 4 then
    (if (gi ν 3 x1.toNatClampNeg) = 0 then
      some (false, ν)
    else
      (Pt_burns ν 2 x1 x2).bind fun v5 =>
      (if (b2i v5) = 0 then
        (if (gi ν 1 5) ≤ (gi ν 2 3) then
          some (false, ν)
        else
          (Fm_lightsSays x1 x2 ν).bind fun v8 =>
          (if v8.1 ≤ 0 then
            some (false, v8.2)
          else
            some (true, v8.2)))
      else
        some (false, ν)))
    else none)
set_option maxRecDepth 100000 in
set_option maxHeartbeats 4000000 in
theorem t_Fm_canLight {g : GG} {d : Nat} (hd0 : 5 ≤ d) : ∀ (x1 : Int32) (x2 : Int32) (ν : Nm) (r : (Bool × Nm)), Fm_canLight x1 x2 ν = some r → Z g d (0, 0) mX11_canLight 333 0 0 0 [(0, .ref 0), (1, .int x1), (2, .int x2)] [] (zem ν) (zF g (some (.int (b2i r.1)), zem r.2)) := by
  intro x1 x2 ν r h
  unfold Fm_canLight at h
  refine z_aload_n dX11_canLight_0 0 rfl ?_
  refine y_getR (M := mX11_canLight) (r := 1) dX11_canLight_1 zk_0 flRX11_12 fr_9_0.1 (fr_9_0.2 _) ?_
  refine y_getR (M := mX11_canLight) (r := 2) dX11_canLight_4 zk_1 flRX11_62 fr_5_0.1 (fr_5_0.2 _) ?_
  refine z_astore_n (M := mX11_canLight) (lv2 := [(3, .ref 2), (0, .ref 0), (1, .int x1), (2, .int x2)]) dX11_canLight_7 (Nat.le_of_ble_eq_true rfl) rfl ?_
  refine z_aload_n dX11_canLight_8 0 rfl ?_
  refine z_iload_n dX11_canLight_9 2 rfl ?_
  obtain ⟨v1, he1, h⟩ := obind h
  refine y_Vi (M := mX11_canLight) (Y := mX2_has) (d2 := d - 1) (As := [.int x1]) (st := []) dX11_canLight_10 mlRX11_190 cv_X2_has zk_2 (ct_Pt_has (dle (Nat.le_of_ble_eq_true rfl) hd0) zk_2 he1) (dps (Nat.le_of_ble_eq_true rfl) hd0) rfl rfl (Nat.le_of_ble_eq_true rfl) ?_
  refine z_if_eq 34 dX11_canLight_13 rfl (fun hc2 => ?_) (fun hc2 => ?_)
  · replace h := oT hc2 h
    refine z_iconst (M := mX11_canLight) (v := 0) dX11_canLight_34 rfl ?_
    cases h
    exact z_zret dX11_canLight_35 rfl rfl
  · replace h := oF hc2 h
    refine z_aload_n dX11_canLight_16 0 rfl ?_
    refine y_getR (M := mX11_canLight) (r := 3) dX11_canLight_17 zk_2 flRX11_193 fr_1_4.1 (fr_1_4.2 _) ?_
    refine z_iload_n dX11_canLight_20 2 rfl ?_
    obtain ⟨hi3, h⟩ := oif h
    refine y_iald (M := mX11_canLight) (jj := x1.toNatClampNeg) dX11_canLight_21 zk_3 hi3 rfl ?_
    refine z_if_eq 34 dX11_canLight_22 rfl (fun hc4 => ?_) (fun hc4 => ?_)
    · replace h := oT hc4 h
      refine z_iconst (M := mX11_canLight) (v := 0) dX11_canLight_34 rfl ?_
      cases h
      exact z_zret dX11_canLight_35 rfl rfl
    · replace h := oF hc4 h
      refine z_aload_n dX11_canLight_25 0 rfl ?_
      refine z_iload_n dX11_canLight_26 2 rfl ?_
      refine z_iload_n dX11_canLight_27 3 rfl ?_
      obtain ⟨v5, he5, h⟩ := obind h
      refine y_Vi (M := mX11_canLight) (Y := mX2_burns) (d2 := d - 1) (As := [.int x1, .int x2]) (st := []) dX11_canLight_28 mlRX11_132 cv_X2_burns zk_2 (ct_Pt_burns (dle (Nat.le_of_ble_eq_true rfl) hd0) zk_2 he5) (dps (Nat.le_of_ble_eq_true rfl) hd0) rfl rfl (Nat.le_of_ble_eq_true rfl) ?_
      refine z_if_eq 36 dX11_canLight_31 rfl (fun hc6 => ?_) (fun hc6 => ?_)
      · replace h := oT hc6 h
        refine z_aload_n dX11_canLight_36 0 rfl ?_
        refine y_getI dX11_canLight_37 zk_2 flRX11_208 ?_
        refine z_aload_n dX11_canLight_40 1 rfl ?_
        refine y_getR (M := mX11_canLight) (r := 1) dX11_canLight_41 zk_0 flRX11_12 fr_9_0.1 (fr_9_0.2 _) ?_
        refine y_getI dX11_canLight_44 zk_1 flRX11_86 ?_
        refine z_icmp_ge 63 dX11_canLight_47 rfl (fun hc7 => ?_) (fun hc7 => ?_)
        · replace h := oT hc7 h
          refine z_iconst (M := mX11_canLight) (v := 0) dX11_canLight_63 rfl ?_
          cases h
          exact z_zret dX11_canLight_64 rfl rfl
        · replace h := oF hc7 h
          refine z_aload_n dX11_canLight_50 1 rfl ?_
          refine z_iload_n dX11_canLight_51 2 rfl ?_
          refine z_iload_n dX11_canLight_52 3 rfl ?_
          obtain ⟨v8, he8, h⟩ := obind h
          refine y_Vi (M := mX11_canLight) (Y := mX11_lightsSays) (d2 := d - 1) (As := [.int x1, .int x2]) (st := []) dX11_canLight_53 mlRX11_202 cv_X11_lightsSays zk_0 (ct_Fm_lightsSays (dle (Nat.le_of_ble_eq_true rfl) hd0) he8) (dps (Nat.le_of_ble_eq_true rfl) hd0) rfl rfl (Nat.le_of_ble_eq_true rfl) ?_
          refine z_if_le 63 dX11_canLight_56 rfl (fun hc9 => ?_) (fun hc9 => ?_)
          · replace h := oT hc9 h
            refine z_iconst (M := mX11_canLight) (v := 0) dX11_canLight_63 rfl ?_
            cases h
            exact z_zret dX11_canLight_64 rfl rfl
          · replace h := oF hc9 h
            refine z_iconst (M := mX11_canLight) (v := 1) dX11_canLight_59 rfl ?_
            refine z_goto 64 dX11_canLight_60 rfl ?_
            cases h
            exact z_zret dX11_canLight_64 rfl rfl
      · replace h := oF hc6 h
        refine z_iconst (M := mX11_canLight) (v := 0) dX11_canLight_34 rfl ?_
        cases h
        exact z_zret dX11_canLight_35 rfl rfl
theorem ct_Fm_canLight {g : GG} {d : Nat} {x1 : Int32} {x2 : Int32} {ν : Nm} {r : (Bool × Nm)} (hd0 : 5 ≤ d)  (h : Fm_canLight x1 x2 ν = some r) : Ct g d mX11_canLight [.ref 0, .int x1, .int x2] (zem ν) (some (.int (b2i r.1)), zem r.2) := y_entry in_X11_canLight (Nat.le_of_ble_eq_true rfl) rfl (t_Fm_canLight hd0 x1 x2 ν r h)
-- FuseMinutes.failsSays(II)I
theorem dX11_failsSays_0 : decode cX11_failsSays 0 = .ok (.aload_n 0, 1) := by decide +kernel
theorem dX11_failsSays_1 : decode cX11_failsSays 1 = .ok (.iload_n 1, 1) := by decide +kernel
theorem dX11_failsSays_2 : decode cX11_failsSays 2 = .ok (.invokevirtual 107, 3) := by decide +kernel
theorem dX11_failsSays_5 : decode cX11_failsSays 5 = .ok (.ifCond .eq 16, 3) := by decide +kernel
theorem dX11_failsSays_8 : decode cX11_failsSays 8 = .ok (.aload_n 0, 1) := by decide +kernel
theorem dX11_failsSays_9 : decode cX11_failsSays 9 = .ok (.getfield 28, 3) := by decide +kernel
theorem dX11_failsSays_12 : decode cX11_failsSays 12 = .ok (.iload_n 1, 1) := by decide +kernel
theorem dX11_failsSays_13 : decode cX11_failsSays 13 = .ok (.aaload, 1) := by decide +kernel
theorem dX11_failsSays_14 : decode cX11_failsSays 14 = .ok (.iconst 1, 1) := by decide +kernel
theorem dX11_failsSays_15 : decode cX11_failsSays 15 = .ok (.invokevirtual 349, 3) := by decide +kernel
theorem dX11_failsSays_18 : decode cX11_failsSays 18 = .ok (.ifCond .ne 5, 3) := by decide +kernel
theorem dX11_failsSays_21 : decode cX11_failsSays 21 = .ok (.iconst 0, 1) := by decide +kernel
theorem dX11_failsSays_22 : decode cX11_failsSays 22 = .ok (.ireturn, 1) := by decide +kernel
theorem dX11_failsSays_23 : decode cX11_failsSays 23 = .ok (.aload_n 0, 1) := by decide +kernel
theorem dX11_failsSays_24 : decode cX11_failsSays 24 = .ok (.getfield 37, 3) := by decide +kernel
theorem dX11_failsSays_27 : decode cX11_failsSays 27 = .ok (.aload_n 0, 1) := by decide +kernel
theorem dX11_failsSays_28 : decode cX11_failsSays 28 = .ok (.getfield 28, 3) := by decide +kernel
theorem dX11_failsSays_31 : decode cX11_failsSays 31 = .ok (.iload_n 1, 1) := by decide +kernel
theorem dX11_failsSays_32 : decode cX11_failsSays 32 = .ok (.aaload, 1) := by decide +kernel
theorem dX11_failsSays_33 : decode cX11_failsSays 33 = .ok (.iconst 1, 1) := by decide +kernel
theorem dX11_failsSays_34 : decode cX11_failsSays 34 = .ok (.iload_n 2, 1) := by decide +kernel
theorem dX11_failsSays_35 : decode cX11_failsSays 35 = .ok (.iconst 0, 1) := by decide +kernel
theorem dX11_failsSays_36 : decode cX11_failsSays 36 = .ok (.invokevirtual 352, 3) := by decide +kernel
theorem dX11_failsSays_39 : decode cX11_failsSays 39 = .ok (.istore_n 3, 1) := by decide +kernel
theorem dX11_failsSays_40 : decode cX11_failsSays 40 = .ok (.iconst 0, 1) := by decide +kernel
theorem dX11_failsSays_41 : decode cX11_failsSays 41 = .ok (.bipush 10, 2) := by decide +kernel
theorem dX11_failsSays_43 : decode cX11_failsSays 43 = .ok (.iload_n 3, 1) := by decide +kernel
theorem dX11_failsSays_44 : decode cX11_failsSays 44 = .ok (.invokestatic 356, 3) := by decide +kernel
theorem dX11_failsSays_47 : decode cX11_failsSays 47 = .ok (.invokestatic 228, 3) := by decide +kernel
theorem dX11_failsSays_50 : decode cX11_failsSays 50 = .ok (.ireturn, 1) := by decide +kernel
def Fm_failsSays (x1 : Int32) (x2 : Int32) (ν : Nm) : Option (Int32 × Nm) :=
  (Fm_hasText ν x1).bind fun v1 =>
  (if (b2i v1) = 0 then
    some ((0 : Int32), ν)
  else
    if inb x1 4 then
    (Tx_rules ν (285 + 7 * x1.toNatClampNeg) (1 : Int32)).bind fun v4 =>
    (if ¬ (b2i v4) = 0 then
      if inb x1 4 then
      (Su_valueOf (285 + 7 * x1.toNatClampNeg) (1 : Int32) x2 (0 : Int32) ν).bind fun v7 =>
      some ((imax (0 : Int32) (imin (10 : Int32) v7.1)), v7.2)
      else none
    else
      some ((0 : Int32), ν))
    else none)
set_option maxRecDepth 100000 in
set_option maxHeartbeats 4000000 in
theorem t_Fm_failsSays {g : GG} {d : Nat} (hd0 : 4 ≤ d) : ∀ (x1 : Int32) (x2 : Int32) (ν : Nm) (r : (Int32 × Nm)), Fm_failsSays x1 x2 ν = some r → Z g d (0, 0) mX11_failsSays 333 0 0 0 [(0, .ref 0), (1, .int x1), (2, .int x2)] [] (zem ν) (zF g (some (.int r.1), zem r.2)) := by
  intro x1 x2 ν r h
  unfold Fm_failsSays at h
  refine z_aload_n dX11_failsSays_0 0 rfl ?_
  refine z_iload_n dX11_failsSays_1 1 rfl ?_
  obtain ⟨v1, he1, h⟩ := obind h
  refine y_Vi (M := mX11_failsSays) (Y := mX11_hasText) (d2 := d - 1) (As := [.int x1]) (st := []) dX11_failsSays_2 mlRX11_107 cv_X11_hasText zk_0 (ct_Fm_hasText (dle (Nat.le_of_ble_eq_true rfl) hd0) he1) (dps (Nat.le_of_ble_eq_true rfl) hd0) rfl rfl (Nat.le_of_ble_eq_true rfl) ?_
  refine z_if_eq 21 dX11_failsSays_5 rfl (fun hc2 => ?_) (fun hc2 => ?_)
  · replace h := oT hc2 h
    refine z_iconst (M := mX11_failsSays) (v := 0) dX11_failsSays_21 rfl ?_
    cases h
    exact z_iret dX11_failsSays_22 rfl
  · replace h := oF hc2 h
    refine z_aload_n dX11_failsSays_8 0 rfl ?_
    refine y_getR (M := mX11_failsSays) (r := 273) dX11_failsSays_9 zk_0 flRX11_28 fr_9_3.1 (fr_9_3.2 _) ?_
    refine z_iload_n dX11_failsSays_12 1 rfl ?_
    obtain ⟨hi3, h⟩ := oif h
    refine y_aaldT dX11_failsSays_13 zk_273 hi3 ?_
    refine z_iconst (M := mX11_failsSays) (v := 1) dX11_failsSays_14 rfl ?_
    obtain ⟨v4, he4, h⟩ := obind h
    refine y_Vi (M := mX11_failsSays) (Y := mX9_rules) (d2 := d - 1) (As := [.int (1 : Int32)]) (st := []) dX11_failsSays_15 mlRX11_349 cv_X9_rules (zkoT hi3) (ct_Tx_rules (dle (Nat.le_of_ble_eq_true rfl) hd0) (zkoT hi3) he4) (dps (Nat.le_of_ble_eq_true rfl) hd0) rfl rfl (Nat.le_of_ble_eq_true rfl) ?_
    refine z_if_ne 23 dX11_failsSays_18 rfl (fun hc5 => ?_) (fun hc5 => ?_)
    · replace h := oT hc5 h
      refine z_aload_n dX11_failsSays_23 0 rfl ?_
      refine y_getR (M := mX11_failsSays) (r := 274) dX11_failsSays_24 zk_0 flRX11_37 fr_9_4.1 (fr_9_4.2 _) ?_
      refine z_aload_n dX11_failsSays_27 0 rfl ?_
      refine y_getR (M := mX11_failsSays) (r := 273) dX11_failsSays_28 zk_0 flRX11_28 fr_9_3.1 (fr_9_3.2 _) ?_
      refine z_iload_n dX11_failsSays_31 1 rfl ?_
      obtain ⟨hi6, h⟩ := oif h
      refine y_aaldT dX11_failsSays_32 zk_273 hi6 ?_
      refine z_iconst (M := mX11_failsSays) (v := 1) dX11_failsSays_33 rfl ?_
      refine z_iload_n dX11_failsSays_34 2 rfl ?_
      refine z_iconst (M := mX11_failsSays) (v := 0) dX11_failsSays_35 rfl ?_
      obtain ⟨v7, he7, h⟩ := obind h
      refine y_Vi (M := mX11_failsSays) (Y := mX7_valueOf) (d2 := d - 1) (As := [.ref (285 + 7 * x1.toNatClampNeg), .int (1 : Int32), .int x2, .int (0 : Int32)]) (st := []) dX11_failsSays_36 mlRX11_352 cv_X7_valueOf zk_274 (ct_Su_valueOf (dle (Nat.le_of_ble_eq_true rfl) hd0) (zkoT hi6) he7) (dps (Nat.le_of_ble_eq_true rfl) hd0) rfl rfl (Nat.le_of_ble_eq_true rfl) ?_
      refine z_istore_n (M := mX11_failsSays) (lv2 := [(3, .int v7.1), (0, .ref 0), (1, .int x1), (2, .int x2)]) dX11_failsSays_39 (Nat.le_of_ble_eq_true rfl) rfl ?_
      refine z_iconst (M := mX11_failsSays) (v := 0) dX11_failsSays_40 rfl ?_
      refine z_bipush (M := mX11_failsSays) (v := 10) dX11_failsSays_41 rfl ?_
      refine z_iload_n dX11_failsSays_43 0 rfl ?_
      refine y_mmin dX11_failsSays_44 mlRX11_356 mw_mmin (Nat.le_trans (Nat.le_of_ble_eq_true rfl) hd0) (Nat.le_of_ble_eq_true rfl) ?_
      refine y_mmax dX11_failsSays_47 mlRX11_228 mw_mmax (Nat.le_trans (Nat.le_of_ble_eq_true rfl) hd0) (Nat.le_of_ble_eq_true rfl) ?_
      cases h
      exact z_iret dX11_failsSays_50 rfl
    · replace h := oFn hc5 h
      refine z_iconst (M := mX11_failsSays) (v := 0) dX11_failsSays_21 rfl ?_
      cases h
      exact z_iret dX11_failsSays_22 rfl
theorem ct_Fm_failsSays {g : GG} {d : Nat} {x1 : Int32} {x2 : Int32} {ν : Nm} {r : (Int32 × Nm)} (hd0 : 4 ≤ d)  (h : Fm_failsSays x1 x2 ν = some r) : Ct g d mX11_failsSays [.ref 0, .int x1, .int x2] (zem ν) (some (.int r.1), zem r.2) := y_entry in_X11_failsSays (Nat.le_of_ble_eq_true rfl) rfl (t_Fm_failsSays hd0 x1 x2 ν r h)
-- FuseMinutes.kindle(II)I
theorem dX11_kindle_0 : decode cX11_kindle 0 = .ok (.aload_n 0, 1) := by decide +kernel
theorem dX11_kindle_1 : decode cX11_kindle 1 = .ok (.aload_n 0, 1) := by decide +kernel
theorem dX11_kindle_2 : decode cX11_kindle 2 = .ok (.getfield 12, 3) := by decide +kernel
theorem dX11_kindle_5 : decode cX11_kindle 5 = .ok (.getfield 111, 3) := by decide +kernel
theorem dX11_kindle_8 : decode cX11_kindle 8 = .ok (.iload_n 1, 1) := by decide +kernel
theorem dX11_kindle_9 : decode cX11_kindle 9 = .ok (.invokevirtual 205, 3) := by decide +kernel
theorem dX11_kindle_12 : decode cX11_kindle 12 = .ok (.istore_n 3, 1) := by decide +kernel
theorem dX11_kindle_13 : decode cX11_kindle 13 = .ok (.aload_n 0, 1) := by decide +kernel
theorem dX11_kindle_14 : decode cX11_kindle 14 = .ok (.getfield 12, 3) := by decide +kernel
theorem dX11_kindle_17 : decode cX11_kindle 17 = .ok (.getfield 62, 3) := by decide +kernel
theorem dX11_kindle_20 : decode cX11_kindle 20 = .ok (.invokevirtual 174, 3) := by decide +kernel
theorem dX11_kindle_23 : decode cX11_kindle 23 = .ok (.bipush 10, 2) := by decide +kernel
theorem dX11_kindle_25 : decode cX11_kindle 25 = .ok (.irem, 1) := by decide +kernel
theorem dX11_kindle_26 : decode cX11_kindle 26 = .ok (.iload_n 3, 1) := by decide +kernel
theorem dX11_kindle_27 : decode cX11_kindle 27 = .ok (.if_icmp .ge 7, 3) := by decide +kernel
theorem dX11_kindle_30 : decode cX11_kindle 30 = .ok (.iconst 1, 1) := by decide +kernel
theorem dX11_kindle_31 : decode cX11_kindle 31 = .ok (.goto 4, 3) := by decide +kernel
theorem dX11_kindle_34 : decode cX11_kindle 34 = .ok (.iconst 0, 1) := by decide +kernel
theorem dX11_kindle_35 : decode cX11_kindle 35 = .ok (.istore 4, 2) := by decide +kernel
theorem dX11_kindle_37 : decode cX11_kindle 37 = .ok (.aload_n 0, 1) := by decide +kernel
theorem dX11_kindle_38 : decode cX11_kindle 38 = .ok (.getfield 12, 3) := by decide +kernel
theorem dX11_kindle_41 : decode cX11_kindle 41 = .ok (.getfield 62, 3) := by decide +kernel
theorem dX11_kindle_44 : decode cX11_kindle 44 = .ok (.iload_n 1, 1) := by decide +kernel
theorem dX11_kindle_45 : decode cX11_kindle 45 = .ok (.iload_n 2, 1) := by decide +kernel
theorem dX11_kindle_46 : decode cX11_kindle 46 = .ok (.iload 4, 2) := by decide +kernel
theorem dX11_kindle_48 : decode cX11_kindle 48 = .ok (.invokevirtual 345, 3) := by decide +kernel
theorem dX11_kindle_51 : decode cX11_kindle 51 = .ok (.iload 4, 2) := by decide +kernel
theorem dX11_kindle_53 : decode cX11_kindle 53 = .ok (.ifCond .eq 7, 3) := by decide +kernel
theorem dX11_kindle_56 : decode cX11_kindle 56 = .ok (.iconst 0, 1) := by decide +kernel
theorem dX11_kindle_57 : decode cX11_kindle 57 = .ok (.goto 4, 3) := by decide +kernel
theorem dX11_kindle_60 : decode cX11_kindle 60 = .ok (.iconst 1, 1) := by decide +kernel
theorem dX11_kindle_61 : decode cX11_kindle 61 = .ok (.ireturn, 1) := by decide +kernel
def Fm_kindle_35 (x1 : Int32) (x2 : Int32) (s0 : Int32) (ν : Nm) : Option (Int32 × Nm) :=
  (Pt_touch 2 x1 x2 s0 ν).bind fun v1 =>
  (if s0 = 0 then
    some ((1 : Int32), v1)
  else
    some ((0 : Int32), v1))
set_option maxRecDepth 100000 in
set_option maxHeartbeats 4000000 in
theorem t_Fm_kindle_35 {g : GG} {d : Nat} (hd0 : 5 ≤ d) : ∀ (x1 : Int32) (x2 : Int32) (s0 : Int32) (ν : Nm) (r : (Int32 × Nm)), Fm_kindle_35 x1 x2 s0 ν = some r → Z g d (0, 0) mX11_kindle 333 0 0 35 [(0, .ref 0), (1, .int x1), (2, .int x2)] [.int s0] (zem ν) (zF g (some (.int r.1), zem r.2)) := by
  intro x1 x2 s0 ν r h
  unfold Fm_kindle_35 at h
  refine z_istore (M := mX11_kindle) (lv2 := [(4, .int s0), (0, .ref 0), (1, .int x1), (2, .int x2)]) dX11_kindle_35 (Nat.le_of_ble_eq_true rfl) rfl ?_
  refine z_aload_n dX11_kindle_37 1 rfl ?_
  refine y_getR (M := mX11_kindle) (r := 1) dX11_kindle_38 zk_0 flRX11_12 fr_9_0.1 (fr_9_0.2 _) ?_
  refine y_getR (M := mX11_kindle) (r := 2) dX11_kindle_41 zk_1 flRX11_62 fr_5_0.1 (fr_5_0.2 _) ?_
  refine z_iload_n dX11_kindle_44 2 rfl ?_
  refine z_iload_n dX11_kindle_45 3 rfl ?_
  refine z_iload dX11_kindle_46 0 rfl ?_
  obtain ⟨v1, he1, h⟩ := obind h
  refine y_Vv (M := mX11_kindle) (Y := mX2_touch) (d2 := d - 1) (As := [.int x1, .int x2, .int s0]) (st := []) dX11_kindle_48 mlRX11_345 cv_X2_touch zk_2 (ct_Pt_touch (dle (Nat.le_of_ble_eq_true rfl) hd0) zk_2 he1) (dps (Nat.le_of_ble_eq_true rfl) hd0) rfl rfl (Nat.le_of_ble_eq_true rfl) ?_
  refine z_iload dX11_kindle_51 0 rfl ?_
  refine z_if_eq 60 dX11_kindle_53 rfl (fun hc2 => ?_) (fun hc2 => ?_)
  · replace h := oT hc2 h
    refine z_iconst (M := mX11_kindle) (v := 1) dX11_kindle_60 rfl ?_
    cases h
    exact z_iret dX11_kindle_61 rfl
  · replace h := oF hc2 h
    refine z_iconst (M := mX11_kindle) (v := 0) dX11_kindle_56 rfl ?_
    refine z_goto 61 dX11_kindle_57 rfl ?_
    cases h
    exact z_iret dX11_kindle_61 rfl
def Fm_kindle (x1 : Int32) (x2 : Int32) (ν : Nm) : Option (Int32 × Nm) :=
  (Fm_failsSays (gi ν 1 7) x1 ν).bind fun v1 =>
  (Pt_draw 2 v1.2).bind fun v2 =>
  (if v1.1 ≤ (v2.1 - v2.1 / (10 : Int32) * (10 : Int32)) then
    Fm_kindle_35 x1 x2 (0 : Int32) v2.2
  else
    Fm_kindle_35 x1 x2 (1 : Int32) v2.2)
set_option maxRecDepth 100000 in
set_option maxHeartbeats 4000000 in
theorem t_Fm_kindle {g : GG} {d : Nat} (hd0 : 5 ≤ d) : ∀ (x1 : Int32) (x2 : Int32) (ν : Nm) (r : (Int32 × Nm)), Fm_kindle x1 x2 ν = some r → Z g d (0, 0) mX11_kindle 333 0 0 0 [(0, .ref 0), (1, .int x1), (2, .int x2)] [] (zem ν) (zF g (some (.int r.1), zem r.2)) := by
  intro x1 x2 ν r h
  unfold Fm_kindle at h
  refine z_aload_n dX11_kindle_0 0 rfl ?_
  refine z_aload_n dX11_kindle_1 0 rfl ?_
  refine y_getR (M := mX11_kindle) (r := 1) dX11_kindle_2 zk_0 flRX11_12 fr_9_0.1 (fr_9_0.2 _) ?_
  refine y_getI dX11_kindle_5 zk_1 flRX11_111 ?_
  refine z_iload_n dX11_kindle_8 1 rfl ?_
  obtain ⟨v1, he1, h⟩ := obind h
  refine y_Vi (M := mX11_kindle) (Y := mX11_failsSays) (d2 := d - 1) (As := [.int (gi ν 1 7), .int x1]) (st := []) dX11_kindle_9 mlRX11_205 cv_X11_failsSays zk_0 (ct_Fm_failsSays (dle (Nat.le_of_ble_eq_true rfl) hd0) he1) (dps (Nat.le_of_ble_eq_true rfl) hd0) rfl rfl (Nat.le_of_ble_eq_true rfl) ?_
  refine z_istore_n (M := mX11_kindle) (lv2 := [(3, .int v1.1), (0, .ref 0), (1, .int x1), (2, .int x2)]) dX11_kindle_12 (Nat.le_of_ble_eq_true rfl) rfl ?_
  refine z_aload_n dX11_kindle_13 1 rfl ?_
  refine y_getR (M := mX11_kindle) (r := 1) dX11_kindle_14 zk_0 flRX11_12 fr_9_0.1 (fr_9_0.2 _) ?_
  refine y_getR (M := mX11_kindle) (r := 2) dX11_kindle_17 zk_1 flRX11_62 fr_5_0.1 (fr_5_0.2 _) ?_
  obtain ⟨v2, he2, h⟩ := obind h
  refine y_Vi (M := mX11_kindle) (Y := mX2_draw) (d2 := d - 1) (As := []) (st := []) dX11_kindle_20 mlRX11_174 cv_X2_draw zk_2 (ct_Pt_draw (dle (Nat.le_of_ble_eq_true rfl) hd0) zk_2 he2) (dps (Nat.le_of_ble_eq_true rfl) hd0) rfl rfl (Nat.le_of_ble_eq_true rfl) ?_
  refine z_bipush (M := mX11_kindle) (v := 10) dX11_kindle_23 rfl ?_
  refine z_irem dX11_kindle_25 (by decide) ?_
  refine z_iload_n dX11_kindle_26 0 rfl ?_
  refine z_icmp_ge 34 dX11_kindle_27 rfl (fun hc3 => ?_) (fun hc3 => ?_)
  · replace h := oT hc3 h
    refine z_iconst (M := mX11_kindle) (v := 0) dX11_kindle_34 rfl ?_
    refine z_lv (lv2 := [(0, .ref 0), (1, .int x1), (2, .int x2)]) [1, 2, 3] rfl ?_
    exact t_Fm_kindle_35 hd0  x1 x2 (0 : Int32) v2.2 _ h
  · replace h := oF hc3 h
    refine z_iconst (M := mX11_kindle) (v := 1) dX11_kindle_30 rfl ?_
    refine z_goto 35 dX11_kindle_31 rfl ?_
    refine z_lv (lv2 := [(0, .ref 0), (1, .int x1), (2, .int x2)]) [1, 2, 3] rfl ?_
    exact t_Fm_kindle_35 hd0  x1 x2 (1 : Int32) v2.2 _ h
theorem ct_Fm_kindle {g : GG} {d : Nat} {x1 : Int32} {x2 : Int32} {ν : Nm} {r : (Int32 × Nm)} (hd0 : 5 ≤ d)  (h : Fm_kindle x1 x2 ν = some r) : Ct g d mX11_kindle [.ref 0, .int x1, .int x2] (zem ν) (some (.int r.1), zem r.2) := y_entry in_X11_kindle (Nat.le_of_ble_eq_true rfl) rfl (t_Fm_kindle hd0 x1 x2 ν r h)
-- FuseMinutes.light(IZ)I
theorem dX11_light_0 : decode cX11_light 0 = .ok (.iload_n 2, 1) := by decide +kernel
theorem dX11_light_1 : decode cX11_light 1 = .ok (.ifCond .eq 7, 3) := by decide +kernel
theorem dX11_light_4 : decode cX11_light 4 = .ok (.iconst 1, 1) := by decide +kernel
theorem dX11_light_5 : decode cX11_light 5 = .ok (.goto 4, 3) := by decide +kernel
theorem dX11_light_8 : decode cX11_light 8 = .ok (.iconst 0, 1) := by decide +kernel
theorem dX11_light_9 : decode cX11_light 9 = .ok (.istore_n 3, 1) := by decide +kernel
theorem dX11_light_10 : decode cX11_light 10 = .ok (.aload_n 0, 1) := by decide +kernel
theorem dX11_light_11 : decode cX11_light 11 = .ok (.iload_n 1, 1) := by decide +kernel
theorem dX11_light_12 : decode cX11_light 12 = .ok (.iload_n 3, 1) := by decide +kernel
theorem dX11_light_13 : decode cX11_light 13 = .ok (.invokevirtual 114, 3) := by decide +kernel
theorem dX11_light_16 : decode cX11_light 16 = .ok (.ifCond .ne 5, 3) := by decide +kernel
theorem dX11_light_19 : decode cX11_light 19 = .ok (.iconst (-1), 1) := by decide +kernel
theorem dX11_light_20 : decode cX11_light 20 = .ok (.ireturn, 1) := by decide +kernel
theorem dX11_light_21 : decode cX11_light 21 = .ok (.aload_n 0, 1) := by decide +kernel
theorem dX11_light_22 : decode cX11_light 22 = .ok (.getfield 12, 3) := by decide +kernel
theorem dX11_light_25 : decode cX11_light 25 = .ok (.getfield 118, 3) := by decide +kernel
theorem dX11_light_28 : decode cX11_light 28 = .ok (.aload_n 0, 1) := by decide +kernel
theorem dX11_light_29 : decode cX11_light 29 = .ok (.getfield 12, 3) := by decide +kernel
theorem dX11_light_32 : decode cX11_light 32 = .ok (.getfield 62, 3) := by decide +kernel
theorem dX11_light_35 : decode cX11_light 35 = .ok (.invokevirtual 122, 3) := by decide +kernel
theorem dX11_light_38 : decode cX11_light 38 = .ok (.aload_n 0, 1) := by decide +kernel
theorem dX11_light_39 : decode cX11_light 39 = .ok (.iload_n 1, 1) := by decide +kernel
theorem dX11_light_40 : decode cX11_light 40 = .ok (.iload_n 3, 1) := by decide +kernel
theorem dX11_light_41 : decode cX11_light 41 = .ok (.invokevirtual 128, 3) := by decide +kernel
theorem dX11_light_44 : decode cX11_light 44 = .ok (.ireturn, 1) := by decide +kernel
def Fm_light_9 (x1 : Int32) (s0 : Int32) (ν : Nm) : Option (Int32 × Nm) :=
  (Fm_canLight x1 s0 ν).bind fun v1 =>
  (if ¬ (b2i v1.1) = 0 then
    (St_push 6 2 v1.2).bind fun v3 =>
    (Fm_kindle x1 s0 v3).bind fun v4 =>
    some (v4.1, v4.2)
  else
    some ((-1 : Int32), v1.2))
set_option maxRecDepth 100000 in
set_option maxHeartbeats 4000000 in
theorem t_Fm_light_9 {g : GG} {d : Nat} (hd0 : 6 ≤ d) : ∀ (x1 : Int32) (s0 : Int32) (ν : Nm) (r : (Int32 × Nm)), Fm_light_9 x1 s0 ν = some r → Z g d (0, 0) mX11_light 333 0 0 9 [(0, .ref 0), (1, .int x1)] [.int s0] (zem ν) (zF g (some (.int r.1), zem r.2)) := by
  intro x1 s0 ν r h
  unfold Fm_light_9 at h
  refine z_istore_n (M := mX11_light) (lv2 := [(3, .int s0), (0, .ref 0), (1, .int x1)]) dX11_light_9 (Nat.le_of_ble_eq_true rfl) rfl ?_
  refine z_aload_n dX11_light_10 1 rfl ?_
  refine z_iload_n dX11_light_11 2 rfl ?_
  refine z_iload_n dX11_light_12 0 rfl ?_
  obtain ⟨v1, he1, h⟩ := obind h
  refine y_Vi (M := mX11_light) (Y := mX11_canLight) (d2 := d - 1) (As := [.int x1, .int s0]) (st := []) dX11_light_13 mlRX11_114 cv_X11_canLight zk_0 (ct_Fm_canLight (dle (Nat.le_of_ble_eq_true rfl) hd0) he1) (dps (Nat.le_of_ble_eq_true rfl) hd0) rfl rfl (Nat.le_of_ble_eq_true rfl) ?_
  refine z_if_ne 21 dX11_light_16 rfl (fun hc2 => ?_) (fun hc2 => ?_)
  · replace h := oT hc2 h
    refine z_aload_n dX11_light_21 1 rfl ?_
    refine y_getR (M := mX11_light) (r := 1) dX11_light_22 zk_0 flRX11_12 fr_9_0.1 (fr_9_0.2 _) ?_
    refine y_getR (M := mX11_light) (r := 6) dX11_light_25 zk_1 flRX11_118 fr_5_1.1 (fr_5_1.2 _) ?_
    refine z_aload_n dX11_light_28 1 rfl ?_
    refine y_getR (M := mX11_light) (r := 1) dX11_light_29 zk_0 flRX11_12 fr_9_0.1 (fr_9_0.2 _) ?_
    refine y_getR (M := mX11_light) (r := 2) dX11_light_32 zk_1 flRX11_62 fr_5_0.1 (fr_5_0.2 _) ?_
    obtain ⟨v3, he3, h⟩ := obind h
    refine y_Vv (M := mX11_light) (Y := mX5_push) (d2 := d - 1) (As := [.ref 2]) (st := []) dX11_light_35 mlRX11_122 cv_X5_push zk_6 (ct_St_push (dle (Nat.le_of_ble_eq_true rfl) hd0) zk_6 zk_2 he3) (dps (Nat.le_of_ble_eq_true rfl) hd0) rfl rfl (Nat.le_of_ble_eq_true rfl) ?_
    refine z_aload_n dX11_light_38 1 rfl ?_
    refine z_iload_n dX11_light_39 2 rfl ?_
    refine z_iload_n dX11_light_40 0 rfl ?_
    obtain ⟨v4, he4, h⟩ := obind h
    refine y_Vi (M := mX11_light) (Y := mX11_kindle) (d2 := d - 1) (As := [.int x1, .int s0]) (st := []) dX11_light_41 mlRX11_128 cv_X11_kindle zk_0 (ct_Fm_kindle (dle (Nat.le_of_ble_eq_true rfl) hd0) he4) (dps (Nat.le_of_ble_eq_true rfl) hd0) rfl rfl (Nat.le_of_ble_eq_true rfl) ?_
    cases h
    exact z_iret dX11_light_44 rfl
  · replace h := oFn hc2 h
    refine z_iconst (M := mX11_light) (v := -1) dX11_light_19 rfl ?_
    cases h
    exact z_iret dX11_light_20 rfl
def Fm_light (x1 : Int32) (x2 : Int32) (ν : Nm) : Option (Int32 × Nm) :=
  (if x2 = 0 then
    Fm_light_9 x1 (0 : Int32) ν
  else
    Fm_light_9 x1 (1 : Int32) ν)
set_option maxRecDepth 100000 in
set_option maxHeartbeats 4000000 in
theorem t_Fm_light {g : GG} {d : Nat} (hd0 : 6 ≤ d) : ∀ (x1 : Int32) (x2 : Int32) (ν : Nm) (r : (Int32 × Nm)), Fm_light x1 x2 ν = some r → Z g d (0, 0) mX11_light 333 0 0 0 [(0, .ref 0), (1, .int x1), (2, .int x2)] [] (zem ν) (zF g (some (.int r.1), zem r.2)) := by
  intro x1 x2 ν r h
  unfold Fm_light at h
  refine z_iload_n dX11_light_0 2 rfl ?_
  refine z_if_eq 8 dX11_light_1 rfl (fun hc1 => ?_) (fun hc1 => ?_)
  · replace h := oT hc1 h
    refine z_iconst (M := mX11_light) (v := 0) dX11_light_8 rfl ?_
    refine z_lv (lv2 := [(0, .ref 0), (1, .int x1)]) [0, 1] rfl ?_
    exact t_Fm_light_9 hd0  x1 (0 : Int32) ν _ h
  · replace h := oF hc1 h
    refine z_iconst (M := mX11_light) (v := 1) dX11_light_4 rfl ?_
    refine z_goto 9 dX11_light_5 rfl ?_
    refine z_lv (lv2 := [(0, .ref 0), (1, .int x1)]) [0, 1] rfl ?_
    exact t_Fm_light_9 hd0  x1 (1 : Int32) ν _ h
theorem ct_Fm_light {g : GG} {d : Nat} {x1 : Int32} {x2 : Int32} {ν : Nm} {r : (Int32 × Nm)} (hd0 : 6 ≤ d)  (h : Fm_light x1 x2 ν = some r) : Ct g d mX11_light [.ref 0, .int x1, .int x2] (zem ν) (some (.int r.1), zem r.2) := y_entry in_X11_light (Nat.le_of_ble_eq_true rfl) rfl (t_Fm_light hd0 x1 x2 ν r h)
-- FuseMinutes.snuff(IZ)Z
theorem dX11_snuff_0 : decode cX11_snuff 0 = .ok (.iload_n 2, 1) := by decide +kernel
theorem dX11_snuff_1 : decode cX11_snuff 1 = .ok (.ifCond .eq 7, 3) := by decide +kernel
theorem dX11_snuff_4 : decode cX11_snuff 4 = .ok (.iconst 1, 1) := by decide +kernel
theorem dX11_snuff_5 : decode cX11_snuff 5 = .ok (.goto 4, 3) := by decide +kernel
theorem dX11_snuff_8 : decode cX11_snuff 8 = .ok (.iconst 0, 1) := by decide +kernel
theorem dX11_snuff_9 : decode cX11_snuff 9 = .ok (.istore_n 3, 1) := by decide +kernel
theorem dX11_snuff_10 : decode cX11_snuff 10 = .ok (.aload_n 0, 1) := by decide +kernel
theorem dX11_snuff_11 : decode cX11_snuff 11 = .ok (.getfield 12, 3) := by decide +kernel
theorem dX11_snuff_14 : decode cX11_snuff 14 = .ok (.getfield 62, 3) := by decide +kernel
theorem dX11_snuff_17 : decode cX11_snuff 17 = .ok (.iload_n 1, 1) := by decide +kernel
theorem dX11_snuff_18 : decode cX11_snuff 18 = .ok (.iload_n 3, 1) := by decide +kernel
theorem dX11_snuff_19 : decode cX11_snuff 19 = .ok (.invokevirtual 132, 3) := by decide +kernel
theorem dX11_snuff_22 : decode cX11_snuff 22 = .ok (.ifCond .ne 5, 3) := by decide +kernel
theorem dX11_snuff_25 : decode cX11_snuff 25 = .ok (.iconst 0, 1) := by decide +kernel
theorem dX11_snuff_26 : decode cX11_snuff 26 = .ok (.ireturn, 1) := by decide +kernel
theorem dX11_snuff_27 : decode cX11_snuff 27 = .ok (.aload_n 0, 1) := by decide +kernel
theorem dX11_snuff_28 : decode cX11_snuff 28 = .ok (.getfield 12, 3) := by decide +kernel
theorem dX11_snuff_31 : decode cX11_snuff 31 = .ok (.getfield 118, 3) := by decide +kernel
theorem dX11_snuff_34 : decode cX11_snuff 34 = .ok (.aload_n 0, 1) := by decide +kernel
theorem dX11_snuff_35 : decode cX11_snuff 35 = .ok (.getfield 12, 3) := by decide +kernel
theorem dX11_snuff_38 : decode cX11_snuff 38 = .ok (.getfield 62, 3) := by decide +kernel
theorem dX11_snuff_41 : decode cX11_snuff 41 = .ok (.invokevirtual 122, 3) := by decide +kernel
theorem dX11_snuff_44 : decode cX11_snuff 44 = .ok (.aload_n 0, 1) := by decide +kernel
theorem dX11_snuff_45 : decode cX11_snuff 45 = .ok (.getfield 12, 3) := by decide +kernel
theorem dX11_snuff_48 : decode cX11_snuff 48 = .ok (.getfield 62, 3) := by decide +kernel
theorem dX11_snuff_51 : decode cX11_snuff 51 = .ok (.iload_n 1, 1) := by decide +kernel
theorem dX11_snuff_52 : decode cX11_snuff 52 = .ok (.iload_n 3, 1) := by decide +kernel
theorem dX11_snuff_53 : decode cX11_snuff 53 = .ok (.invokevirtual 135, 3) := by decide +kernel
theorem dX11_snuff_56 : decode cX11_snuff 56 = .ok (.iconst 1, 1) := by decide +kernel
theorem dX11_snuff_57 : decode cX11_snuff 57 = .ok (.ireturn, 1) := by decide +kernel
def Fm_snuff_9 (x1 : Int32) (s0 : Int32) (ν : Nm) : Option (Bool × Nm) :=
  (Pt_burns ν 2 x1 s0).bind fun v1 =>
  (if ¬ (b2i v1) = 0 then
    (St_push 6 2 ν).bind fun v3 =>
    (Pt_putOut 2 x1 s0 v3).bind fun v4 =>
    some (true, v4)
  else
    some (false, ν))
set_option maxRecDepth 100000 in
set_option maxHeartbeats 4000000 in
theorem t_Fm_snuff_9 {g : GG} {d : Nat} (hd0 : 3 ≤ d) : ∀ (x1 : Int32) (s0 : Int32) (ν : Nm) (r : (Bool × Nm)), Fm_snuff_9 x1 s0 ν = some r → Z g d (0, 0) mX11_snuff 333 0 0 9 [(0, .ref 0), (1, .int x1)] [.int s0] (zem ν) (zF g (some (.int (b2i r.1)), zem r.2)) := by
  intro x1 s0 ν r h
  unfold Fm_snuff_9 at h
  refine z_istore_n (M := mX11_snuff) (lv2 := [(3, .int s0), (0, .ref 0), (1, .int x1)]) dX11_snuff_9 (Nat.le_of_ble_eq_true rfl) rfl ?_
  refine z_aload_n dX11_snuff_10 1 rfl ?_
  refine y_getR (M := mX11_snuff) (r := 1) dX11_snuff_11 zk_0 flRX11_12 fr_9_0.1 (fr_9_0.2 _) ?_
  refine y_getR (M := mX11_snuff) (r := 2) dX11_snuff_14 zk_1 flRX11_62 fr_5_0.1 (fr_5_0.2 _) ?_
  refine z_iload_n dX11_snuff_17 2 rfl ?_
  refine z_iload_n dX11_snuff_18 0 rfl ?_
  obtain ⟨v1, he1, h⟩ := obind h
  refine y_Vi (M := mX11_snuff) (Y := mX2_burns) (d2 := d - 1) (As := [.int x1, .int s0]) (st := []) dX11_snuff_19 mlRX11_132 cv_X2_burns zk_2 (ct_Pt_burns (dle (Nat.le_of_ble_eq_true rfl) hd0) zk_2 he1) (dps (Nat.le_of_ble_eq_true rfl) hd0) rfl rfl (Nat.le_of_ble_eq_true rfl) ?_
  refine z_if_ne 27 dX11_snuff_22 rfl (fun hc2 => ?_) (fun hc2 => ?_)
  · replace h := oT hc2 h
    refine z_aload_n dX11_snuff_27 1 rfl ?_
    refine y_getR (M := mX11_snuff) (r := 1) dX11_snuff_28 zk_0 flRX11_12 fr_9_0.1 (fr_9_0.2 _) ?_
    refine y_getR (M := mX11_snuff) (r := 6) dX11_snuff_31 zk_1 flRX11_118 fr_5_1.1 (fr_5_1.2 _) ?_
    refine z_aload_n dX11_snuff_34 1 rfl ?_
    refine y_getR (M := mX11_snuff) (r := 1) dX11_snuff_35 zk_0 flRX11_12 fr_9_0.1 (fr_9_0.2 _) ?_
    refine y_getR (M := mX11_snuff) (r := 2) dX11_snuff_38 zk_1 flRX11_62 fr_5_0.1 (fr_5_0.2 _) ?_
    obtain ⟨v3, he3, h⟩ := obind h
    refine y_Vv (M := mX11_snuff) (Y := mX5_push) (d2 := d - 1) (As := [.ref 2]) (st := []) dX11_snuff_41 mlRX11_122 cv_X5_push zk_6 (ct_St_push (dle (Nat.le_of_ble_eq_true rfl) hd0) zk_6 zk_2 he3) (dps (Nat.le_of_ble_eq_true rfl) hd0) rfl rfl (Nat.le_of_ble_eq_true rfl) ?_
    refine z_aload_n dX11_snuff_44 1 rfl ?_
    refine y_getR (M := mX11_snuff) (r := 1) dX11_snuff_45 zk_0 flRX11_12 fr_9_0.1 (fr_9_0.2 _) ?_
    refine y_getR (M := mX11_snuff) (r := 2) dX11_snuff_48 zk_1 flRX11_62 fr_5_0.1 (fr_5_0.2 _) ?_
    refine z_iload_n dX11_snuff_51 2 rfl ?_
    refine z_iload_n dX11_snuff_52 0 rfl ?_
    obtain ⟨v4, he4, h⟩ := obind h
    refine y_Vv (M := mX11_snuff) (Y := mX2_putOut) (d2 := d - 1) (As := [.int x1, .int s0]) (st := []) dX11_snuff_53 mlRX11_135 cv_X2_putOut zk_2 (ct_Pt_putOut (dle (Nat.le_of_ble_eq_true rfl) hd0) zk_2 he4) (dps (Nat.le_of_ble_eq_true rfl) hd0) rfl rfl (Nat.le_of_ble_eq_true rfl) ?_
    refine z_iconst (M := mX11_snuff) (v := 1) dX11_snuff_56 rfl ?_
    cases h
    exact z_zret dX11_snuff_57 rfl rfl
  · replace h := oFn hc2 h
    refine z_iconst (M := mX11_snuff) (v := 0) dX11_snuff_25 rfl ?_
    cases h
    exact z_zret dX11_snuff_26 rfl rfl
def Fm_snuff (x1 : Int32) (x2 : Int32) (ν : Nm) : Option (Bool × Nm) :=
  (if x2 = 0 then
    Fm_snuff_9 x1 (0 : Int32) ν
  else
    Fm_snuff_9 x1 (1 : Int32) ν)
set_option maxRecDepth 100000 in
set_option maxHeartbeats 4000000 in
theorem t_Fm_snuff {g : GG} {d : Nat} (hd0 : 3 ≤ d) : ∀ (x1 : Int32) (x2 : Int32) (ν : Nm) (r : (Bool × Nm)), Fm_snuff x1 x2 ν = some r → Z g d (0, 0) mX11_snuff 333 0 0 0 [(0, .ref 0), (1, .int x1), (2, .int x2)] [] (zem ν) (zF g (some (.int (b2i r.1)), zem r.2)) := by
  intro x1 x2 ν r h
  unfold Fm_snuff at h
  refine z_iload_n dX11_snuff_0 2 rfl ?_
  refine z_if_eq 8 dX11_snuff_1 rfl (fun hc1 => ?_) (fun hc1 => ?_)
  · replace h := oT hc1 h
    refine z_iconst (M := mX11_snuff) (v := 0) dX11_snuff_8 rfl ?_
    refine z_lv (lv2 := [(0, .ref 0), (1, .int x1)]) [0, 1] rfl ?_
    exact t_Fm_snuff_9 hd0  x1 (0 : Int32) ν _ h
  · replace h := oF hc1 h
    refine z_iconst (M := mX11_snuff) (v := 1) dX11_snuff_4 rfl ?_
    refine z_goto 9 dX11_snuff_5 rfl ?_
    refine z_lv (lv2 := [(0, .ref 0), (1, .int x1)]) [0, 1] rfl ?_
    exact t_Fm_snuff_9 hd0  x1 (1 : Int32) ν _ h
theorem ct_Fm_snuff {g : GG} {d : Nat} {x1 : Int32} {x2 : Int32} {ν : Nm} {r : (Bool × Nm)} (hd0 : 3 ≤ d)  (h : Fm_snuff x1 x2 ν = some r) : Ct g d mX11_snuff [.ref 0, .int x1, .int x2] (zem ν) (some (.int (b2i r.1)), zem r.2) := y_entry in_X11_snuff (Nat.le_of_ble_eq_true rfl) rfl (t_Fm_snuff hd0 x1 x2 ν r h)
-- FuseMinutes.canRenew(I)Z
theorem dX11_canRenew_0 : decode cX11_canRenew 0 = .ok (.aload_n 0, 1) := by decide +kernel
theorem dX11_canRenew_1 : decode cX11_canRenew 1 = .ok (.getfield 12, 3) := by decide +kernel
theorem dX11_canRenew_4 : decode cX11_canRenew 4 = .ok (.getfield 62, 3) := by decide +kernel
theorem dX11_canRenew_7 : decode cX11_canRenew 7 = .ok (.astore_n 2, 1) := by decide +kernel
theorem dX11_canRenew_8 : decode cX11_canRenew 8 = .ok (.aload_n 2, 1) := by decide +kernel
theorem dX11_canRenew_9 : decode cX11_canRenew 9 = .ok (.iload_n 1, 1) := by decide +kernel
theorem dX11_canRenew_10 : decode cX11_canRenew 10 = .ok (.invokevirtual 190, 3) := by decide +kernel
theorem dX11_canRenew_13 : decode cX11_canRenew 13 = .ok (.ifCond .ne 5, 3) := by decide +kernel
theorem dX11_canRenew_16 : decode cX11_canRenew 16 = .ok (.iconst 0, 1) := by decide +kernel
theorem dX11_canRenew_17 : decode cX11_canRenew 17 = .ok (.ireturn, 1) := by decide +kernel
theorem dX11_canRenew_18 : decode cX11_canRenew 18 = .ok (.aload_n 2, 1) := by decide +kernel
theorem dX11_canRenew_19 : decode cX11_canRenew 19 = .ok (.getfield 196, 3) := by decide +kernel
theorem dX11_canRenew_22 : decode cX11_canRenew 22 = .ok (.iload_n 1, 1) := by decide +kernel
theorem dX11_canRenew_23 : decode cX11_canRenew 23 = .ok (.iaload, 1) := by decide +kernel
theorem dX11_canRenew_24 : decode cX11_canRenew 24 = .ok (.ifCond .ne 24, 3) := by decide +kernel
theorem dX11_canRenew_27 : decode cX11_canRenew 27 = .ok (.aload_n 2, 1) := by decide +kernel
theorem dX11_canRenew_28 : decode cX11_canRenew 28 = .ok (.getfield 193, 3) := by decide +kernel
theorem dX11_canRenew_31 : decode cX11_canRenew 31 = .ok (.iload_n 1, 1) := by decide +kernel
theorem dX11_canRenew_32 : decode cX11_canRenew 32 = .ok (.iaload, 1) := by decide +kernel
theorem dX11_canRenew_33 : decode cX11_canRenew 33 = .ok (.aload_n 0, 1) := by decide +kernel
theorem dX11_canRenew_34 : decode cX11_canRenew 34 = .ok (.getfield 12, 3) := by decide +kernel
theorem dX11_canRenew_37 : decode cX11_canRenew 37 = .ok (.getfield 43, 3) := by decide +kernel
theorem dX11_canRenew_40 : decode cX11_canRenew 40 = .ok (.iload_n 1, 1) := by decide +kernel
theorem dX11_canRenew_41 : decode cX11_canRenew 41 = .ok (.iaload, 1) := by decide +kernel
theorem dX11_canRenew_42 : decode cX11_canRenew 42 = .ok (.bipush 64, 2) := by decide +kernel
theorem dX11_canRenew_44 : decode cX11_canRenew 44 = .ok (.imul, 1) := by decide +kernel
theorem dX11_canRenew_45 : decode cX11_canRenew 45 = .ok (.if_icmp .ge 7, 3) := by decide +kernel
theorem dX11_canRenew_48 : decode cX11_canRenew 48 = .ok (.iconst 1, 1) := by decide +kernel
theorem dX11_canRenew_49 : decode cX11_canRenew 49 = .ok (.goto 4, 3) := by decide +kernel
theorem dX11_canRenew_52 : decode cX11_canRenew 52 = .ok (.iconst 0, 1) := by decide +kernel
theorem dX11_canRenew_53 : decode cX11_canRenew 53 = .ok (.ireturn, 1) := by decide +kernel
def Fm_canRenew (ν : Nm) (x1 : Int32) : Option Bool :=
  (Pt_has ν 2 x1).bind fun v1 =>
  (if ¬ (b2i v1) = 0 then
    if inb x1 4 then
    (if ¬ (gi ν 4 x1.toNatClampNeg) = 0 then
      some true
    else
      if inb x1 4 then
      if inb x1 4 then
      (if ((gi ν 128 x1.toNatClampNeg) * (64 : Int32)) ≤ (gi ν 3 x1.toNatClampNeg) then
        some false
      else
        some true)
      else none
      else none)
    else none
  else
    some false)
set_option maxRecDepth 100000 in
set_option maxHeartbeats 4000000 in
theorem t_Fm_canRenew {g : GG} {d : Nat} {ν : Nm} (hd0 : 2 ≤ d) : ∀ (x1 : Int32) (r : Bool), Fm_canRenew ν x1 = some r → Z g d (0, 0) mX11_canRenew 333 0 0 0 [(0, .ref 0), (1, .int x1)] [] (zem ν) (zF g (some (.int (b2i r)), zem ν)) := by
  intro x1 r h
  unfold Fm_canRenew at h
  refine z_aload_n dX11_canRenew_0 0 rfl ?_
  refine y_getR (M := mX11_canRenew) (r := 1) dX11_canRenew_1 zk_0 flRX11_12 fr_9_0.1 (fr_9_0.2 _) ?_
  refine y_getR (M := mX11_canRenew) (r := 2) dX11_canRenew_4 zk_1 flRX11_62 fr_5_0.1 (fr_5_0.2 _) ?_
  refine z_astore_n (M := mX11_canRenew) (lv2 := [(2, .ref 2), (0, .ref 0), (1, .int x1)]) dX11_canRenew_7 (Nat.le_of_ble_eq_true rfl) rfl ?_
  refine z_aload_n dX11_canRenew_8 0 rfl ?_
  refine z_iload_n dX11_canRenew_9 2 rfl ?_
  obtain ⟨v1, he1, h⟩ := obind h
  refine y_Vi (M := mX11_canRenew) (Y := mX2_has) (d2 := d - 1) (As := [.int x1]) (st := []) dX11_canRenew_10 mlRX11_190 cv_X2_has zk_2 (ct_Pt_has (dle (Nat.le_of_ble_eq_true rfl) hd0) zk_2 he1) (dps (Nat.le_of_ble_eq_true rfl) hd0) rfl rfl (Nat.le_of_ble_eq_true rfl) ?_
  refine z_if_ne 18 dX11_canRenew_13 rfl (fun hc2 => ?_) (fun hc2 => ?_)
  · replace h := oT hc2 h
    refine z_aload_n dX11_canRenew_18 0 rfl ?_
    refine y_getR (M := mX11_canRenew) (r := 4) dX11_canRenew_19 zk_2 flRX11_196 fr_1_5.1 (fr_1_5.2 _) ?_
    refine z_iload_n dX11_canRenew_22 2 rfl ?_
    obtain ⟨hi3, h⟩ := oif h
    refine y_iald (M := mX11_canRenew) (jj := x1.toNatClampNeg) dX11_canRenew_23 zk_4 hi3 rfl ?_
    refine z_if_ne 48 dX11_canRenew_24 rfl (fun hc4 => ?_) (fun hc4 => ?_)
    · replace h := oT hc4 h
      refine z_iconst (M := mX11_canRenew) (v := 1) dX11_canRenew_48 rfl ?_
      refine z_goto 53 dX11_canRenew_49 rfl ?_
      cases h
      exact z_zret dX11_canRenew_53 rfl rfl
    · replace h := oFn hc4 h
      refine z_aload_n dX11_canRenew_27 0 rfl ?_
      refine y_getR (M := mX11_canRenew) (r := 3) dX11_canRenew_28 zk_2 flRX11_193 fr_1_4.1 (fr_1_4.2 _) ?_
      refine z_iload_n dX11_canRenew_31 2 rfl ?_
      obtain ⟨hi5, h⟩ := oif h
      refine y_iald (M := mX11_canRenew) (jj := x1.toNatClampNeg) dX11_canRenew_32 zk_3 hi5 rfl ?_
      refine z_aload_n dX11_canRenew_33 1 rfl ?_
      refine y_getR (M := mX11_canRenew) (r := 1) dX11_canRenew_34 zk_0 flRX11_12 fr_9_0.1 (fr_9_0.2 _) ?_
      refine y_getR (M := mX11_canRenew) (r := 128) dX11_canRenew_37 zk_1 flRX11_43 fr_5_2.1 (fr_5_2.2 _) ?_
      refine z_iload_n dX11_canRenew_40 2 rfl ?_
      obtain ⟨hi6, h⟩ := oif h
      refine y_iald (M := mX11_canRenew) (jj := x1.toNatClampNeg) dX11_canRenew_41 zk_128 hi6 rfl ?_
      refine z_bipush (M := mX11_canRenew) (v := 64) dX11_canRenew_42 rfl ?_
      refine z_imul dX11_canRenew_44 ?_
      refine z_icmp_ge 52 dX11_canRenew_45 rfl (fun hc7 => ?_) (fun hc7 => ?_)
      · replace h := oT hc7 h
        refine z_iconst (M := mX11_canRenew) (v := 0) dX11_canRenew_52 rfl ?_
        cases h
        exact z_zret dX11_canRenew_53 rfl rfl
      · replace h := oF hc7 h
        refine z_iconst (M := mX11_canRenew) (v := 1) dX11_canRenew_48 rfl ?_
        refine z_goto 53 dX11_canRenew_49 rfl ?_
        cases h
        exact z_zret dX11_canRenew_53 rfl rfl
  · replace h := oFn hc2 h
    refine z_iconst (M := mX11_canRenew) (v := 0) dX11_canRenew_16 rfl ?_
    cases h
    exact z_zret dX11_canRenew_17 rfl rfl
theorem ct_Fm_canRenew {g : GG} {d : Nat} {x1 : Int32} {ν : Nm} {r : Bool} (hd0 : 2 ≤ d)  (h : Fm_canRenew ν x1 = some r) : Ct g d mX11_canRenew [.ref 0, .int x1] (zem ν) (some (.int (b2i r)), zem ν) := y_entry in_X11_canRenew (Nat.le_of_ble_eq_true rfl) rfl (t_Fm_canRenew hd0 x1 r h)
-- FuseMinutes.renew(I)Z
theorem dX11_renew_0 : decode cX11_renew 0 = .ok (.aload_n 0, 1) := by decide +kernel
theorem dX11_renew_1 : decode cX11_renew 1 = .ok (.iload_n 1, 1) := by decide +kernel
theorem dX11_renew_2 : decode cX11_renew 2 = .ok (.invokevirtual 139, 3) := by decide +kernel
theorem dX11_renew_5 : decode cX11_renew 5 = .ok (.ifCond .ne 5, 3) := by decide +kernel
theorem dX11_renew_8 : decode cX11_renew 8 = .ok (.iconst 0, 1) := by decide +kernel
theorem dX11_renew_9 : decode cX11_renew 9 = .ok (.ireturn, 1) := by decide +kernel
theorem dX11_renew_10 : decode cX11_renew 10 = .ok (.aload_n 0, 1) := by decide +kernel
theorem dX11_renew_11 : decode cX11_renew 11 = .ok (.getfield 12, 3) := by decide +kernel
theorem dX11_renew_14 : decode cX11_renew 14 = .ok (.getfield 118, 3) := by decide +kernel
theorem dX11_renew_17 : decode cX11_renew 17 = .ok (.aload_n 0, 1) := by decide +kernel
theorem dX11_renew_18 : decode cX11_renew 18 = .ok (.getfield 12, 3) := by decide +kernel
theorem dX11_renew_21 : decode cX11_renew 21 = .ok (.getfield 62, 3) := by decide +kernel
theorem dX11_renew_24 : decode cX11_renew 24 = .ok (.invokevirtual 122, 3) := by decide +kernel
theorem dX11_renew_27 : decode cX11_renew 27 = .ok (.aload_n 0, 1) := by decide +kernel
theorem dX11_renew_28 : decode cX11_renew 28 = .ok (.getfield 12, 3) := by decide +kernel
theorem dX11_renew_31 : decode cX11_renew 31 = .ok (.getfield 62, 3) := by decide +kernel
theorem dX11_renew_34 : decode cX11_renew 34 = .ok (.iload_n 1, 1) := by decide +kernel
theorem dX11_renew_35 : decode cX11_renew 35 = .ok (.aload_n 0, 1) := by decide +kernel
theorem dX11_renew_36 : decode cX11_renew 36 = .ok (.getfield 12, 3) := by decide +kernel
theorem dX11_renew_39 : decode cX11_renew 39 = .ok (.getfield 43, 3) := by decide +kernel
theorem dX11_renew_42 : decode cX11_renew 42 = .ok (.iload_n 1, 1) := by decide +kernel
theorem dX11_renew_43 : decode cX11_renew 43 = .ok (.iaload, 1) := by decide +kernel
theorem dX11_renew_44 : decode cX11_renew 44 = .ok (.invokevirtual 142, 3) := by decide +kernel
theorem dX11_renew_47 : decode cX11_renew 47 = .ok (.iconst 1, 1) := by decide +kernel
theorem dX11_renew_48 : decode cX11_renew 48 = .ok (.ireturn, 1) := by decide +kernel
def Fm_renew (x1 : Int32) (ν : Nm) : Option (Bool × Nm) :=
  (Fm_canRenew ν x1).bind fun v1 =>
  (if ¬ (b2i v1) = 0 then
    (St_push 6 2 ν).bind fun v3 =>
    if inb x1 4 then
    (Pt_makeNew 2 x1 (gi v3 128 x1.toNatClampNeg) v3).bind fun v5 =>
    some (true, v5)
    else none
  else
    some (false, ν))
set_option maxRecDepth 100000 in
set_option maxHeartbeats 4000000 in
theorem t_Fm_renew {g : GG} {d : Nat} (hd0 : 3 ≤ d) : ∀ (x1 : Int32) (ν : Nm) (r : (Bool × Nm)), Fm_renew x1 ν = some r → Z g d (0, 0) mX11_renew 333 0 0 0 [(0, .ref 0), (1, .int x1)] [] (zem ν) (zF g (some (.int (b2i r.1)), zem r.2)) := by
  intro x1 ν r h
  unfold Fm_renew at h
  refine z_aload_n dX11_renew_0 0 rfl ?_
  refine z_iload_n dX11_renew_1 1 rfl ?_
  obtain ⟨v1, he1, h⟩ := obind h
  refine y_Vi (M := mX11_renew) (Y := mX11_canRenew) (d2 := d - 1) (As := [.int x1]) (st := []) dX11_renew_2 mlRX11_139 cv_X11_canRenew zk_0 (ct_Fm_canRenew (dle (Nat.le_of_ble_eq_true rfl) hd0) he1) (dps (Nat.le_of_ble_eq_true rfl) hd0) rfl rfl (Nat.le_of_ble_eq_true rfl) ?_
  refine z_if_ne 10 dX11_renew_5 rfl (fun hc2 => ?_) (fun hc2 => ?_)
  · replace h := oT hc2 h
    refine z_aload_n dX11_renew_10 0 rfl ?_
    refine y_getR (M := mX11_renew) (r := 1) dX11_renew_11 zk_0 flRX11_12 fr_9_0.1 (fr_9_0.2 _) ?_
    refine y_getR (M := mX11_renew) (r := 6) dX11_renew_14 zk_1 flRX11_118 fr_5_1.1 (fr_5_1.2 _) ?_
    refine z_aload_n dX11_renew_17 0 rfl ?_
    refine y_getR (M := mX11_renew) (r := 1) dX11_renew_18 zk_0 flRX11_12 fr_9_0.1 (fr_9_0.2 _) ?_
    refine y_getR (M := mX11_renew) (r := 2) dX11_renew_21 zk_1 flRX11_62 fr_5_0.1 (fr_5_0.2 _) ?_
    obtain ⟨v3, he3, h⟩ := obind h
    refine y_Vv (M := mX11_renew) (Y := mX5_push) (d2 := d - 1) (As := [.ref 2]) (st := []) dX11_renew_24 mlRX11_122 cv_X5_push zk_6 (ct_St_push (dle (Nat.le_of_ble_eq_true rfl) hd0) zk_6 zk_2 he3) (dps (Nat.le_of_ble_eq_true rfl) hd0) rfl rfl (Nat.le_of_ble_eq_true rfl) ?_
    refine z_aload_n dX11_renew_27 0 rfl ?_
    refine y_getR (M := mX11_renew) (r := 1) dX11_renew_28 zk_0 flRX11_12 fr_9_0.1 (fr_9_0.2 _) ?_
    refine y_getR (M := mX11_renew) (r := 2) dX11_renew_31 zk_1 flRX11_62 fr_5_0.1 (fr_5_0.2 _) ?_
    refine z_iload_n dX11_renew_34 1 rfl ?_
    refine z_aload_n dX11_renew_35 0 rfl ?_
    refine y_getR (M := mX11_renew) (r := 1) dX11_renew_36 zk_0 flRX11_12 fr_9_0.1 (fr_9_0.2 _) ?_
    refine y_getR (M := mX11_renew) (r := 128) dX11_renew_39 zk_1 flRX11_43 fr_5_2.1 (fr_5_2.2 _) ?_
    refine z_iload_n dX11_renew_42 1 rfl ?_
    obtain ⟨hi4, h⟩ := oif h
    refine y_iald (M := mX11_renew) (jj := x1.toNatClampNeg) dX11_renew_43 zk_128 hi4 rfl ?_
    obtain ⟨v5, he5, h⟩ := obind h
    refine y_Vv (M := mX11_renew) (Y := mX2_makeNew) (d2 := d - 1) (As := [.int x1, .int (gi v3 128 x1.toNatClampNeg)]) (st := []) dX11_renew_44 mlRX11_142 cv_X2_makeNew zk_2 (ct_Pt_makeNew (dle (Nat.le_of_ble_eq_true rfl) hd0) zk_2 he5) (dps (Nat.le_of_ble_eq_true rfl) hd0) rfl rfl (Nat.le_of_ble_eq_true rfl) ?_
    refine z_iconst (M := mX11_renew) (v := 1) dX11_renew_47 rfl ?_
    cases h
    exact z_zret dX11_renew_48 rfl rfl
  · replace h := oFn hc2 h
    refine z_iconst (M := mX11_renew) (v := 0) dX11_renew_8 rfl ?_
    cases h
    exact z_zret dX11_renew_9 rfl rfl
theorem ct_Fm_renew {g : GG} {d : Nat} {x1 : Int32} {ν : Nm} {r : (Bool × Nm)} (hd0 : 3 ≤ d)  (h : Fm_renew x1 ν = some r) : Ct g d mX11_renew [.ref 0, .int x1] (zem ν) (some (.int (b2i r.1)), zem r.2) := y_entry in_X11_renew (Nat.le_of_ble_eq_true rfl) rfl (t_Fm_renew hd0 x1 ν r h)
-- FuseMinutes.burn()I
theorem dX11_burn_0 : decode cX11_burn 0 = .ok (.aload_n 0, 1) := by decide +kernel
theorem dX11_burn_1 : decode cX11_burn 1 = .ok (.getfield 12, 3) := by decide +kernel
theorem dX11_burn_4 : decode cX11_burn 4 = .ok (.getfield 62, 3) := by decide +kernel
theorem dX11_burn_7 : decode cX11_burn 7 = .ok (.invokevirtual 145, 3) := by decide +kernel
theorem dX11_burn_10 : decode cX11_burn 10 = .ok (.istore_n 1, 1) := by decide +kernel
theorem dX11_burn_11 : decode cX11_burn 11 = .ok (.iload_n 1, 1) := by decide +kernel
theorem dX11_burn_12 : decode cX11_burn 12 = .ok (.iconst (-1), 1) := by decide +kernel
theorem dX11_burn_13 : decode cX11_burn 13 = .ok (.if_icmp .ne 5, 3) := by decide +kernel
theorem dX11_burn_16 : decode cX11_burn 16 = .ok (.iconst (-1), 1) := by decide +kernel
theorem dX11_burn_17 : decode cX11_burn 17 = .ok (.ireturn, 1) := by decide +kernel
theorem dX11_burn_18 : decode cX11_burn 18 = .ok (.aload_n 0, 1) := by decide +kernel
theorem dX11_burn_19 : decode cX11_burn 19 = .ok (.getfield 12, 3) := by decide +kernel
theorem dX11_burn_22 : decode cX11_burn 22 = .ok (.getfield 118, 3) := by decide +kernel
theorem dX11_burn_25 : decode cX11_burn 25 = .ok (.aload_n 0, 1) := by decide +kernel
theorem dX11_burn_26 : decode cX11_burn 26 = .ok (.getfield 12, 3) := by decide +kernel
theorem dX11_burn_29 : decode cX11_burn 29 = .ok (.getfield 62, 3) := by decide +kernel
theorem dX11_burn_32 : decode cX11_burn 32 = .ok (.invokevirtual 122, 3) := by decide +kernel
theorem dX11_burn_35 : decode cX11_burn 35 = .ok (.aload_n 0, 1) := by decide +kernel
theorem dX11_burn_36 : decode cX11_burn 36 = .ok (.getfield 12, 3) := by decide +kernel
theorem dX11_burn_39 : decode cX11_burn 39 = .ok (.getfield 62, 3) := by decide +kernel
theorem dX11_burn_42 : decode cX11_burn 42 = .ok (.iload_n 1, 1) := by decide +kernel
theorem dX11_burn_43 : decode cX11_burn 43 = .ok (.invokevirtual 149, 3) := by decide +kernel
theorem dX11_burn_46 : decode cX11_burn 46 = .ok (.pop, 1) := by decide +kernel
theorem dX11_burn_47 : decode cX11_burn 47 = .ok (.iload_n 1, 1) := by decide +kernel
theorem dX11_burn_48 : decode cX11_burn 48 = .ok (.ireturn, 1) := by decide +kernel
def Fm_burn (ν : Nm) : Option (Int32 × Nm) :=
  (Pt_sparksToBurn ν 2).bind fun v1 =>
  (if ¬ v1 = (-1 : Int32) then
    (St_push 6 2 ν).bind fun v3 =>
    (Pt_pass 2 v1 v3).bind fun v4 =>
    some (v1, v4.2)
  else
    some ((-1 : Int32), ν))
set_option maxRecDepth 100000 in
set_option maxHeartbeats 4000000 in
theorem t_Fm_burn {g : GG} {d : Nat} (hd0 : 5 ≤ d) : ∀ (ν : Nm) (r : (Int32 × Nm)), Fm_burn ν = some r → Z g d (0, 0) mX11_burn 333 0 0 0 [(0, .ref 0)] [] (zem ν) (zF g (some (.int r.1), zem r.2)) := by
  intro ν r h
  unfold Fm_burn at h
  refine z_aload_n dX11_burn_0 0 rfl ?_
  refine y_getR (M := mX11_burn) (r := 1) dX11_burn_1 zk_0 flRX11_12 fr_9_0.1 (fr_9_0.2 _) ?_
  refine y_getR (M := mX11_burn) (r := 2) dX11_burn_4 zk_1 flRX11_62 fr_5_0.1 (fr_5_0.2 _) ?_
  obtain ⟨v1, he1, h⟩ := obind h
  refine y_Vi (M := mX11_burn) (Y := mX2_sparksToBurn) (d2 := d - 1) (As := []) (st := []) dX11_burn_7 mlRX11_145 cv_X2_sparksToBurn zk_2 (ct_Pt_sparksToBurn (dle (Nat.le_of_ble_eq_true rfl) hd0) zk_2 he1) (dps (Nat.le_of_ble_eq_true rfl) hd0) rfl rfl (Nat.le_of_ble_eq_true rfl) ?_
  refine z_istore_n (M := mX11_burn) (lv2 := [(1, .int v1), (0, .ref 0)]) dX11_burn_10 (Nat.le_of_ble_eq_true rfl) rfl ?_
  refine z_iload_n dX11_burn_11 0 rfl ?_
  refine z_iconst (M := mX11_burn) (v := -1) dX11_burn_12 rfl ?_
  refine z_icmp_ne 18 dX11_burn_13 rfl (fun hc2 => ?_) (fun hc2 => ?_)
  · replace h := oT hc2 h
    refine z_aload_n dX11_burn_18 1 rfl ?_
    refine y_getR (M := mX11_burn) (r := 1) dX11_burn_19 zk_0 flRX11_12 fr_9_0.1 (fr_9_0.2 _) ?_
    refine y_getR (M := mX11_burn) (r := 6) dX11_burn_22 zk_1 flRX11_118 fr_5_1.1 (fr_5_1.2 _) ?_
    refine z_aload_n dX11_burn_25 1 rfl ?_
    refine y_getR (M := mX11_burn) (r := 1) dX11_burn_26 zk_0 flRX11_12 fr_9_0.1 (fr_9_0.2 _) ?_
    refine y_getR (M := mX11_burn) (r := 2) dX11_burn_29 zk_1 flRX11_62 fr_5_0.1 (fr_5_0.2 _) ?_
    obtain ⟨v3, he3, h⟩ := obind h
    refine y_Vv (M := mX11_burn) (Y := mX5_push) (d2 := d - 1) (As := [.ref 2]) (st := []) dX11_burn_32 mlRX11_122 cv_X5_push zk_6 (ct_St_push (dle (Nat.le_of_ble_eq_true rfl) hd0) zk_6 zk_2 he3) (dps (Nat.le_of_ble_eq_true rfl) hd0) rfl rfl (Nat.le_of_ble_eq_true rfl) ?_
    refine z_aload_n dX11_burn_35 1 rfl ?_
    refine y_getR (M := mX11_burn) (r := 1) dX11_burn_36 zk_0 flRX11_12 fr_9_0.1 (fr_9_0.2 _) ?_
    refine y_getR (M := mX11_burn) (r := 2) dX11_burn_39 zk_1 flRX11_62 fr_5_0.1 (fr_5_0.2 _) ?_
    refine z_iload_n dX11_burn_42 0 rfl ?_
    obtain ⟨v4, he4, h⟩ := obind h
    refine y_Vi (M := mX11_burn) (Y := mX2_pass) (d2 := d - 1) (As := [.int v1]) (st := []) dX11_burn_43 mlRX11_149 cv_X2_pass zk_2 (ct_Pt_pass (dle (Nat.le_of_ble_eq_true rfl) hd0) zk_2 he4) (dps (Nat.le_of_ble_eq_true rfl) hd0) rfl rfl (Nat.le_of_ble_eq_true rfl) ?_
    refine z_pop dX11_burn_46 rfl ?_
    refine z_iload_n dX11_burn_47 0 rfl ?_
    cases h
    exact z_iret dX11_burn_48 rfl
  · replace h := oFn hc2 h
    refine z_iconst (M := mX11_burn) (v := -1) dX11_burn_16 rfl ?_
    cases h
    exact z_iret dX11_burn_17 rfl
theorem ct_Fm_burn {g : GG} {d : Nat} {ν : Nm} {r : (Int32 × Nm)} (hd0 : 5 ≤ d)  (h : Fm_burn ν = some r) : Ct g d mX11_burn [.ref 0] (zem ν) (some (.int r.1), zem r.2) := y_entry in_X11_burn (Nat.le_of_ble_eq_true rfl) rfl (t_Fm_burn hd0 ν r h)
-- FuseMinutes.minute(I)I
theorem dX11_minute_0 : decode cX11_minute 0 = .ok (.iload_n 1, 1) := by decide +kernel
theorem dX11_minute_1 : decode cX11_minute 1 = .ok (.iconst 1, 1) := by decide +kernel
theorem dX11_minute_2 : decode cX11_minute 2 = .ok (.bipush 60, 2) := by decide +kernel
theorem dX11_minute_4 : decode cX11_minute 4 = .ok (.invokestatic 72, 3) := by decide +kernel
theorem dX11_minute_7 : decode cX11_minute 7 = .ok (.ifCond .eq 17, 3) := by decide +kernel
theorem dX11_minute_10 : decode cX11_minute 10 = .ok (.aload_n 0, 1) := by decide +kernel
theorem dX11_minute_11 : decode cX11_minute 11 = .ok (.getfield 12, 3) := by decide +kernel
theorem dX11_minute_14 : decode cX11_minute 14 = .ok (.getfield 62, 3) := by decide +kernel
theorem dX11_minute_17 : decode cX11_minute 17 = .ok (.iload_n 1, 1) := by decide +kernel
theorem dX11_minute_18 : decode cX11_minute 18 = .ok (.invokevirtual 153, 3) := by decide +kernel
theorem dX11_minute_21 : decode cX11_minute 21 = .ok (.ifCond .ne 5, 3) := by decide +kernel
theorem dX11_minute_24 : decode cX11_minute 24 = .ok (.iconst (-1), 1) := by decide +kernel
theorem dX11_minute_25 : decode cX11_minute 25 = .ok (.ireturn, 1) := by decide +kernel
theorem dX11_minute_26 : decode cX11_minute 26 = .ok (.iconst 0, 1) := by decide +kernel
theorem dX11_minute_27 : decode cX11_minute 27 = .ok (.istore_n 2, 1) := by decide +kernel
theorem dX11_minute_28 : decode cX11_minute 28 = .ok (.iconst 0, 1) := by decide +kernel
theorem dX11_minute_29 : decode cX11_minute 29 = .ok (.istore_n 3, 1) := by decide +kernel
theorem dX11_minute_30 : decode cX11_minute 30 = .ok (.iload_n 3, 1) := by decide +kernel
theorem dX11_minute_31 : decode cX11_minute 31 = .ok (.iload_n 1, 1) := by decide +kernel
theorem dX11_minute_32 : decode cX11_minute 32 = .ok (.if_icmp .ge 41, 3) := by decide +kernel
theorem dX11_minute_35 : decode cX11_minute 35 = .ok (.aload_n 0, 1) := by decide +kernel
theorem dX11_minute_36 : decode cX11_minute 36 = .ok (.getfield 12, 3) := by decide +kernel
theorem dX11_minute_39 : decode cX11_minute 39 = .ok (.getfield 118, 3) := by decide +kernel
theorem dX11_minute_42 : decode cX11_minute 42 = .ok (.aload_n 0, 1) := by decide +kernel
theorem dX11_minute_43 : decode cX11_minute 43 = .ok (.getfield 12, 3) := by decide +kernel
theorem dX11_minute_46 : decode cX11_minute 46 = .ok (.getfield 62, 3) := by decide +kernel
theorem dX11_minute_49 : decode cX11_minute 49 = .ok (.invokevirtual 122, 3) := by decide +kernel
theorem dX11_minute_52 : decode cX11_minute 52 = .ok (.iload_n 2, 1) := by decide +kernel
theorem dX11_minute_53 : decode cX11_minute 53 = .ok (.aload_n 0, 1) := by decide +kernel
theorem dX11_minute_54 : decode cX11_minute 54 = .ok (.getfield 12, 3) := by decide +kernel
theorem dX11_minute_57 : decode cX11_minute 57 = .ok (.getfield 62, 3) := by decide +kernel
theorem dX11_minute_60 : decode cX11_minute 60 = .ok (.bipush 64, 2) := by decide +kernel
theorem dX11_minute_62 : decode cX11_minute 62 = .ok (.invokevirtual 149, 3) := by decide +kernel
theorem dX11_minute_65 : decode cX11_minute 65 = .ok (.iadd, 1) := by decide +kernel
theorem dX11_minute_66 : decode cX11_minute 66 = .ok (.istore_n 2, 1) := by decide +kernel
theorem dX11_minute_67 : decode cX11_minute 67 = .ok (.iinc 3 1, 3) := by decide +kernel
theorem dX11_minute_70 : decode cX11_minute 70 = .ok (.goto (-40), 3) := by decide +kernel
theorem dX11_minute_73 : decode cX11_minute 73 = .ok (.iload_n 2, 1) := by decide +kernel
theorem dX11_minute_74 : decode cX11_minute 74 = .ok (.ireturn, 1) := by decide +kernel
def Fm_minute_30 : Nat → Int32 → Int32 → Int32 → Nm → Option (Int32 × Nm)
  | 0, _, _, _, _ => none
  | f + 1, x1, x2, x3, ν =>
    (if x1 ≤ x3 then
      some (x2, ν)
    else
      (St_push 6 2 ν).bind fun v2 =>
      (Pt_pass 2 (64 : Int32) v2).bind fun v3 =>
      (Fm_minute_30 f) x1 (x2 + v3.1) (x3 + (1 : Int32)) v3.2)
set_option maxRecDepth 100000 in
set_option maxHeartbeats 4000000 in
theorem t_Fm_minute_30 {g : GG} {d : Nat} (hd0 : 5 ≤ d) : ∀ (f : Nat), ∀ (x1 : Int32) (x2 : Int32) (x3 : Int32) (ν : Nm) (r : (Int32 × Nm)), Fm_minute_30 f x1 x2 x3 ν = some r → Z g d (0, 0) mX11_minute 333 0 0 30 [(0, .ref 0), (1, .int x1), (2, .int x2), (3, .int x3)] [] (zem ν) (zF g (some (.int r.1), zem r.2)) := by
  intro f
  induction f with
  | zero =>
    intro x1 x2 x3 ν r h
    cases h
  | succ f ih =>
    intro x1 x2 x3 ν r h
    rw [Fm_minute_30] at h
    refine z_iload_n dX11_minute_30 3 rfl ?_
    refine z_iload_n dX11_minute_31 1 rfl ?_
    refine z_icmp_ge 73 dX11_minute_32 rfl (fun hc1 => ?_) (fun hc1 => ?_)
    · replace h := oT hc1 h
      refine z_iload_n dX11_minute_73 2 rfl ?_
      cases h
      exact z_iret dX11_minute_74 rfl
    · replace h := oF hc1 h
      refine z_aload_n dX11_minute_35 0 rfl ?_
      refine y_getR (M := mX11_minute) (r := 1) dX11_minute_36 zk_0 flRX11_12 fr_9_0.1 (fr_9_0.2 _) ?_
      refine y_getR (M := mX11_minute) (r := 6) dX11_minute_39 zk_1 flRX11_118 fr_5_1.1 (fr_5_1.2 _) ?_
      refine z_aload_n dX11_minute_42 0 rfl ?_
      refine y_getR (M := mX11_minute) (r := 1) dX11_minute_43 zk_0 flRX11_12 fr_9_0.1 (fr_9_0.2 _) ?_
      refine y_getR (M := mX11_minute) (r := 2) dX11_minute_46 zk_1 flRX11_62 fr_5_0.1 (fr_5_0.2 _) ?_
      obtain ⟨v2, he2, h⟩ := obind h
      refine y_Vv (M := mX11_minute) (Y := mX5_push) (d2 := d - 1) (As := [.ref 2]) (st := []) dX11_minute_49 mlRX11_122 cv_X5_push zk_6 (ct_St_push (dle (Nat.le_of_ble_eq_true rfl) hd0) zk_6 zk_2 he2) (dps (Nat.le_of_ble_eq_true rfl) hd0) rfl rfl (Nat.le_of_ble_eq_true rfl) ?_
      refine z_iload_n dX11_minute_52 2 rfl ?_
      refine z_aload_n dX11_minute_53 0 rfl ?_
      refine y_getR (M := mX11_minute) (r := 1) dX11_minute_54 zk_0 flRX11_12 fr_9_0.1 (fr_9_0.2 _) ?_
      refine y_getR (M := mX11_minute) (r := 2) dX11_minute_57 zk_1 flRX11_62 fr_5_0.1 (fr_5_0.2 _) ?_
      refine z_bipush (M := mX11_minute) (v := 64) dX11_minute_60 rfl ?_
      obtain ⟨v3, he3, h⟩ := obind h
      refine y_Vi (M := mX11_minute) (Y := mX2_pass) (d2 := d - 1) (As := [.int (64 : Int32)]) (st := [.int x2]) dX11_minute_62 mlRX11_149 cv_X2_pass zk_2 (ct_Pt_pass (dle (Nat.le_of_ble_eq_true rfl) hd0) zk_2 he3) (dps (Nat.le_of_ble_eq_true rfl) hd0) rfl rfl (Nat.le_of_ble_eq_true rfl) ?_
      refine z_iadd dX11_minute_65 ?_
      refine z_istore_n (M := mX11_minute) (lv2 := [(2, .int (x2 + v3.1)), (0, .ref 0), (1, .int x1), (3, .int x3)]) dX11_minute_66 (Nat.le_of_ble_eq_true rfl) rfl ?_
      refine z_iinc (M := mX11_minute) (v := (x3 + (1 : Int32))) (lv2 := [(3, .int (x3 + (1 : Int32))), (2, .int (x2 + v3.1)), (0, .ref 0), (1, .int x1)]) dX11_minute_67 3 rfl rfl (Nat.le_of_ble_eq_true rfl) rfl ?_
      refine z_goto 30 dX11_minute_70 rfl ?_
      refine z_lv (lv2 := [(0, .ref 0), (1, .int x1), (2, .int (x2 + v3.1)), (3, .int (x3 + (1 : Int32)))]) [2, 3, 1, 0] rfl ?_
      exact ih x1 (x2 + v3.1) (x3 + (1 : Int32)) v3.2 _ h
def Fm_minute (x1 : Int32) (ν : Nm) : Option (Int32 × Nm) :=
  (Fm_within x1 (1 : Int32) (60 : Int32)).bind fun v1 =>
  (if (b2i v1) = 0 then
    some ((-1 : Int32), ν)
  else
    (Pt_hasTimeFor ν 2 x1).bind fun v3 =>
    (if ¬ (b2i v3) = 0 then
      Fm_minute_30 FU x1 (0 : Int32) (0 : Int32) ν
    else
      some ((-1 : Int32), ν)))
set_option maxRecDepth 100000 in
set_option maxHeartbeats 4000000 in
theorem t_Fm_minute {g : GG} {d : Nat} (hd0 : 5 ≤ d) : ∀ (x1 : Int32) (ν : Nm) (r : (Int32 × Nm)), Fm_minute x1 ν = some r → Z g d (0, 0) mX11_minute 333 0 0 0 [(0, .ref 0), (1, .int x1)] [] (zem ν) (zF g (some (.int r.1), zem r.2)) := by
  intro x1 ν r h
  unfold Fm_minute at h
  refine z_iload_n dX11_minute_0 1 rfl ?_
  refine z_iconst (M := mX11_minute) (v := 1) dX11_minute_1 rfl ?_
  refine z_bipush (M := mX11_minute) (v := 60) dX11_minute_2 rfl ?_
  obtain ⟨v1, he1, h⟩ := obind h
  refine y_Si (M := mX11_minute) (Y := mX11_within) (d2 := d - 1) (As := [.int x1, .int (1 : Int32), .int (60 : Int32)]) (st := []) dX11_minute_4 mlRX11_72 cv_X11_within (ct_Fm_within (dle (Nat.le_of_ble_eq_true rfl) hd0) he1) (dps (Nat.le_of_ble_eq_true rfl) hd0) rfl rfl (Nat.le_of_ble_eq_true rfl) ?_
  refine z_if_eq 24 dX11_minute_7 rfl (fun hc2 => ?_) (fun hc2 => ?_)
  · replace h := oT hc2 h
    refine z_iconst (M := mX11_minute) (v := -1) dX11_minute_24 rfl ?_
    cases h
    exact z_iret dX11_minute_25 rfl
  · replace h := oF hc2 h
    refine z_aload_n dX11_minute_10 0 rfl ?_
    refine y_getR (M := mX11_minute) (r := 1) dX11_minute_11 zk_0 flRX11_12 fr_9_0.1 (fr_9_0.2 _) ?_
    refine y_getR (M := mX11_minute) (r := 2) dX11_minute_14 zk_1 flRX11_62 fr_5_0.1 (fr_5_0.2 _) ?_
    refine z_iload_n dX11_minute_17 1 rfl ?_
    obtain ⟨v3, he3, h⟩ := obind h
    refine y_Vi (M := mX11_minute) (Y := mX2_hasTimeFor) (d2 := d - 1) (As := [.int x1]) (st := []) dX11_minute_18 mlRX11_153 cv_X2_hasTimeFor zk_2 (ct_Pt_hasTimeFor (dle (Nat.le_of_ble_eq_true rfl) hd0) zk_2 he3) (dps (Nat.le_of_ble_eq_true rfl) hd0) rfl rfl (Nat.le_of_ble_eq_true rfl) ?_
    refine z_if_ne 26 dX11_minute_21 rfl (fun hc4 => ?_) (fun hc4 => ?_)
    · replace h := oT hc4 h
      refine z_iconst (M := mX11_minute) (v := 0) dX11_minute_26 rfl ?_
      refine z_istore_n (M := mX11_minute) (lv2 := [(2, .int (0 : Int32)), (0, .ref 0), (1, .int x1)]) dX11_minute_27 (Nat.le_of_ble_eq_true rfl) rfl ?_
      refine z_iconst (M := mX11_minute) (v := 0) dX11_minute_28 rfl ?_
      refine z_istore_n (M := mX11_minute) (lv2 := [(3, .int (0 : Int32)), (2, .int (0 : Int32)), (0, .ref 0), (1, .int x1)]) dX11_minute_29 (Nat.le_of_ble_eq_true rfl) rfl ?_
      refine z_lv (lv2 := [(0, .ref 0), (1, .int x1), (2, .int (0 : Int32)), (3, .int (0 : Int32))]) [2, 3, 1, 0] rfl ?_
      exact t_Fm_minute_30 hd0 FU x1 (0 : Int32) (0 : Int32) ν _ h
    · replace h := oFn hc4 h
      refine z_iconst (M := mX11_minute) (v := -1) dX11_minute_24 rfl ?_
      cases h
      exact z_iret dX11_minute_25 rfl
theorem ct_Fm_minute {g : GG} {d : Nat} {x1 : Int32} {ν : Nm} {r : (Int32 × Nm)} (hd0 : 5 ≤ d)  (h : Fm_minute x1 ν = some r) : Ct g d mX11_minute [.ref 0, .int x1] (zem ν) (some (.int r.1), zem r.2) := y_entry in_X11_minute (Nat.le_of_ble_eq_true rfl) rfl (t_Fm_minute hd0 x1 ν r h)
-- FuseMinutes.minutesPassed(I)Z
theorem dX11_minutesPassed_0 : decode cX11_minutesPassed 0 = .ok (.iconst 0, 1) := by decide +kernel
theorem dX11_minutesPassed_1 : decode cX11_minutesPassed 1 = .ok (.istore_n 2, 1) := by decide +kernel
theorem dX11_minutesPassed_2 : decode cX11_minutesPassed 2 = .ok (.iload_n 2, 1) := by decide +kernel
theorem dX11_minutesPassed_3 : decode cX11_minutesPassed 3 = .ok (.iload_n 1, 1) := by decide +kernel
theorem dX11_minutesPassed_4 : decode cX11_minutesPassed 4 = .ok (.if_icmp .ge 20, 3) := by decide +kernel
theorem dX11_minutesPassed_7 : decode cX11_minutesPassed 7 = .ok (.aload_n 0, 1) := by decide +kernel
theorem dX11_minutesPassed_8 : decode cX11_minutesPassed 8 = .ok (.iconst 1, 1) := by decide +kernel
theorem dX11_minutesPassed_9 : decode cX11_minutesPassed 9 = .ok (.invokevirtual 381, 3) := by decide +kernel
theorem dX11_minutesPassed_12 : decode cX11_minutesPassed 12 = .ok (.iconst (-1), 1) := by decide +kernel
theorem dX11_minutesPassed_13 : decode cX11_minutesPassed 13 = .ok (.if_icmp .ne 5, 3) := by decide +kernel
theorem dX11_minutesPassed_16 : decode cX11_minutesPassed 16 = .ok (.iconst 0, 1) := by decide +kernel
theorem dX11_minutesPassed_17 : decode cX11_minutesPassed 17 = .ok (.ireturn, 1) := by decide +kernel
theorem dX11_minutesPassed_18 : decode cX11_minutesPassed 18 = .ok (.iinc 2 1, 3) := by decide +kernel
theorem dX11_minutesPassed_21 : decode cX11_minutesPassed 21 = .ok (.goto (-19), 3) := by decide +kernel
theorem dX11_minutesPassed_24 : decode cX11_minutesPassed 24 = .ok (.iconst 1, 1) := by decide +kernel
theorem dX11_minutesPassed_25 : decode cX11_minutesPassed 25 = .ok (.ireturn, 1) := by decide +kernel
def Fm_minutesPassed_2 : Nat → Int32 → Int32 → Nm → Option (Bool × Nm)
  | 0, _, _, _ => none
  | f + 1, x1, x2, ν =>
    (if x1 ≤ x2 then
      some (true, ν)
    else
      (Fm_minute (1 : Int32) ν).bind fun v2 =>
      (if ¬ v2.1 = (-1 : Int32) then
        (Fm_minutesPassed_2 f) x1 (x2 + (1 : Int32)) v2.2
      else
        some (false, v2.2)))
set_option maxRecDepth 100000 in
set_option maxHeartbeats 4000000 in
theorem t_Fm_minutesPassed_2 {g : GG} {d : Nat} (hd0 : 6 ≤ d) : ∀ (f : Nat), ∀ (x1 : Int32) (x2 : Int32) (ν : Nm) (r : (Bool × Nm)), Fm_minutesPassed_2 f x1 x2 ν = some r → Z g d (0, 0) mX11_minutesPassed 333 0 0 2 [(0, .ref 0), (1, .int x1), (2, .int x2)] [] (zem ν) (zF g (some (.int (b2i r.1)), zem r.2)) := by
  intro f
  induction f with
  | zero =>
    intro x1 x2 ν r h
    cases h
  | succ f ih =>
    intro x1 x2 ν r h
    rw [Fm_minutesPassed_2] at h
    refine z_iload_n dX11_minutesPassed_2 2 rfl ?_
    refine z_iload_n dX11_minutesPassed_3 1 rfl ?_
    refine z_icmp_ge 24 dX11_minutesPassed_4 rfl (fun hc1 => ?_) (fun hc1 => ?_)
    · replace h := oT hc1 h
      refine z_iconst (M := mX11_minutesPassed) (v := 1) dX11_minutesPassed_24 rfl ?_
      cases h
      exact z_zret dX11_minutesPassed_25 rfl rfl
    · replace h := oF hc1 h
      refine z_aload_n dX11_minutesPassed_7 0 rfl ?_
      refine z_iconst (M := mX11_minutesPassed) (v := 1) dX11_minutesPassed_8 rfl ?_
      obtain ⟨v2, he2, h⟩ := obind h
      refine y_Vi (M := mX11_minutesPassed) (Y := mX11_minute) (d2 := d - 1) (As := [.int (1 : Int32)]) (st := []) dX11_minutesPassed_9 mlRX11_381 cv_X11_minute zk_0 (ct_Fm_minute (dle (Nat.le_of_ble_eq_true rfl) hd0) he2) (dps (Nat.le_of_ble_eq_true rfl) hd0) rfl rfl (Nat.le_of_ble_eq_true rfl) ?_
      refine z_iconst (M := mX11_minutesPassed) (v := -1) dX11_minutesPassed_12 rfl ?_
      refine z_icmp_ne 18 dX11_minutesPassed_13 rfl (fun hc3 => ?_) (fun hc3 => ?_)
      · replace h := oT hc3 h
        refine z_iinc (M := mX11_minutesPassed) (v := (x2 + (1 : Int32))) (lv2 := [(2, .int (x2 + (1 : Int32))), (0, .ref 0), (1, .int x1)]) dX11_minutesPassed_18 2 rfl rfl (Nat.le_of_ble_eq_true rfl) rfl ?_
        refine z_goto 2 dX11_minutesPassed_21 rfl ?_
        refine z_lv (lv2 := [(0, .ref 0), (1, .int x1), (2, .int (x2 + (1 : Int32)))]) [1, 2, 0] rfl ?_
        exact ih x1 (x2 + (1 : Int32)) v2.2 _ h
      · replace h := oFn hc3 h
        refine z_iconst (M := mX11_minutesPassed) (v := 0) dX11_minutesPassed_16 rfl ?_
        cases h
        exact z_zret dX11_minutesPassed_17 rfl rfl
def Fm_minutesPassed (x1 : Int32) (ν : Nm) : Option (Bool × Nm) :=
  Fm_minutesPassed_2 FU x1 (0 : Int32) ν
set_option maxRecDepth 100000 in
set_option maxHeartbeats 4000000 in
theorem t_Fm_minutesPassed {g : GG} {d : Nat} (hd0 : 6 ≤ d) : ∀ (x1 : Int32) (ν : Nm) (r : (Bool × Nm)), Fm_minutesPassed x1 ν = some r → Z g d (0, 0) mX11_minutesPassed 333 0 0 0 [(0, .ref 0), (1, .int x1)] [] (zem ν) (zF g (some (.int (b2i r.1)), zem r.2)) := by
  intro x1 ν r h
  unfold Fm_minutesPassed at h
  refine z_iconst (M := mX11_minutesPassed) (v := 0) dX11_minutesPassed_0 rfl ?_
  refine z_istore_n (M := mX11_minutesPassed) (lv2 := [(2, .int (0 : Int32)), (0, .ref 0), (1, .int x1)]) dX11_minutesPassed_1 (Nat.le_of_ble_eq_true rfl) rfl ?_
  refine z_lv (lv2 := [(0, .ref 0), (1, .int x1), (2, .int (0 : Int32))]) [1, 2, 0] rfl ?_
  exact t_Fm_minutesPassed_2 hd0 FU x1 (0 : Int32) ν _ h
theorem ct_Fm_minutesPassed {g : GG} {d : Nat} {x1 : Int32} {ν : Nm} {r : (Bool × Nm)} (hd0 : 6 ≤ d)  (h : Fm_minutesPassed x1 ν = some r) : Ct g d mX11_minutesPassed [.ref 0, .int x1] (zem ν) (some (.int (b2i r.1)), zem r.2) := y_entry in_X11_minutesPassed (Nat.le_of_ble_eq_true rfl) rfl (t_Fm_minutesPassed hd0 x1 ν r h)
-- FuseMinutes.carriedOut(III)Z
theorem dX11_carriedOut_0 : decode cX11_carriedOut 0 = .ok (.iload_n 1, 1) := by decide +kernel
theorem dX11_carriedOut_1 : decode cX11_carriedOut 1 = .ok (.tableswitch 155 4 12 #[51, 155, 67, 73, 89, 105, 129, 135, 149], 51) := by decide +kernel
theorem dX11_carriedOut_52 : decode cX11_carriedOut 52 = .ok (.aload_n 0, 1) := by decide +kernel
theorem dX11_carriedOut_53 : decode cX11_carriedOut 53 = .ok (.iload_n 2, 1) := by decide +kernel
theorem dX11_carriedOut_54 : decode cX11_carriedOut 54 = .ok (.iload_n 3, 1) := by decide +kernel
theorem dX11_carriedOut_55 : decode cX11_carriedOut 55 = .ok (.invokevirtual 359, 3) := by decide +kernel
theorem dX11_carriedOut_58 : decode cX11_carriedOut 58 = .ok (.iconst (-1), 1) := by decide +kernel
theorem dX11_carriedOut_59 : decode cX11_carriedOut 59 = .ok (.if_icmp .eq 7, 3) := by decide +kernel
theorem dX11_carriedOut_62 : decode cX11_carriedOut 62 = .ok (.iconst 1, 1) := by decide +kernel
theorem dX11_carriedOut_63 : decode cX11_carriedOut 63 = .ok (.goto 4, 3) := by decide +kernel
theorem dX11_carriedOut_66 : decode cX11_carriedOut 66 = .ok (.iconst 0, 1) := by decide +kernel
theorem dX11_carriedOut_67 : decode cX11_carriedOut 67 = .ok (.ireturn, 1) := by decide +kernel
theorem dX11_carriedOut_68 : decode cX11_carriedOut 68 = .ok (.aload_n 0, 1) := by decide +kernel
theorem dX11_carriedOut_69 : decode cX11_carriedOut 69 = .ok (.iload_n 2, 1) := by decide +kernel
theorem dX11_carriedOut_70 : decode cX11_carriedOut 70 = .ok (.invokevirtual 362, 3) := by decide +kernel
theorem dX11_carriedOut_73 : decode cX11_carriedOut 73 = .ok (.ireturn, 1) := by decide +kernel
theorem dX11_carriedOut_74 : decode cX11_carriedOut 74 = .ok (.aload_n 0, 1) := by decide +kernel
theorem dX11_carriedOut_75 : decode cX11_carriedOut 75 = .ok (.iload_n 2, 1) := by decide +kernel
theorem dX11_carriedOut_76 : decode cX11_carriedOut 76 = .ok (.iconst 0, 1) := by decide +kernel
theorem dX11_carriedOut_77 : decode cX11_carriedOut 77 = .ok (.invokevirtual 364, 3) := by decide +kernel
theorem dX11_carriedOut_80 : decode cX11_carriedOut 80 = .ok (.iconst (-1), 1) := by decide +kernel
theorem dX11_carriedOut_81 : decode cX11_carriedOut 81 = .ok (.if_icmp .eq 7, 3) := by decide +kernel
theorem dX11_carriedOut_84 : decode cX11_carriedOut 84 = .ok (.iconst 1, 1) := by decide +kernel
theorem dX11_carriedOut_85 : decode cX11_carriedOut 85 = .ok (.goto 4, 3) := by decide +kernel
theorem dX11_carriedOut_88 : decode cX11_carriedOut 88 = .ok (.iconst 0, 1) := by decide +kernel
theorem dX11_carriedOut_89 : decode cX11_carriedOut 89 = .ok (.ireturn, 1) := by decide +kernel
theorem dX11_carriedOut_90 : decode cX11_carriedOut 90 = .ok (.aload_n 0, 1) := by decide +kernel
theorem dX11_carriedOut_91 : decode cX11_carriedOut 91 = .ok (.iload_n 2, 1) := by decide +kernel
theorem dX11_carriedOut_92 : decode cX11_carriedOut 92 = .ok (.iconst 1, 1) := by decide +kernel
theorem dX11_carriedOut_93 : decode cX11_carriedOut 93 = .ok (.invokevirtual 364, 3) := by decide +kernel
theorem dX11_carriedOut_96 : decode cX11_carriedOut 96 = .ok (.iconst (-1), 1) := by decide +kernel
theorem dX11_carriedOut_97 : decode cX11_carriedOut 97 = .ok (.if_icmp .eq 7, 3) := by decide +kernel
theorem dX11_carriedOut_100 : decode cX11_carriedOut 100 = .ok (.iconst 1, 1) := by decide +kernel
theorem dX11_carriedOut_101 : decode cX11_carriedOut 101 = .ok (.goto 4, 3) := by decide +kernel
theorem dX11_carriedOut_104 : decode cX11_carriedOut 104 = .ok (.iconst 0, 1) := by decide +kernel
theorem dX11_carriedOut_105 : decode cX11_carriedOut 105 = .ok (.ireturn, 1) := by decide +kernel
theorem dX11_carriedOut_106 : decode cX11_carriedOut 106 = .ok (.aload_n 0, 1) := by decide +kernel
theorem dX11_carriedOut_107 : decode cX11_carriedOut 107 = .ok (.iload_n 2, 1) := by decide +kernel
theorem dX11_carriedOut_108 : decode cX11_carriedOut 108 = .ok (.iconst 0, 1) := by decide +kernel
theorem dX11_carriedOut_109 : decode cX11_carriedOut 109 = .ok (.invokevirtual 368, 3) := by decide +kernel
theorem dX11_carriedOut_112 : decode cX11_carriedOut 112 = .ok (.ifCond .ne 12, 3) := by decide +kernel
theorem dX11_carriedOut_115 : decode cX11_carriedOut 115 = .ok (.aload_n 0, 1) := by decide +kernel
theorem dX11_carriedOut_116 : decode cX11_carriedOut 116 = .ok (.iload_n 2, 1) := by decide +kernel
theorem dX11_carriedOut_117 : decode cX11_carriedOut 117 = .ok (.iconst 1, 1) := by decide +kernel
theorem dX11_carriedOut_118 : decode cX11_carriedOut 118 = .ok (.invokevirtual 368, 3) := by decide +kernel
theorem dX11_carriedOut_121 : decode cX11_carriedOut 121 = .ok (.ifCond .eq 7, 3) := by decide +kernel
theorem dX11_carriedOut_124 : decode cX11_carriedOut 124 = .ok (.iconst 1, 1) := by decide +kernel
theorem dX11_carriedOut_125 : decode cX11_carriedOut 125 = .ok (.goto 4, 3) := by decide +kernel
theorem dX11_carriedOut_128 : decode cX11_carriedOut 128 = .ok (.iconst 0, 1) := by decide +kernel
theorem dX11_carriedOut_129 : decode cX11_carriedOut 129 = .ok (.ireturn, 1) := by decide +kernel
theorem dX11_carriedOut_130 : decode cX11_carriedOut 130 = .ok (.aload_n 0, 1) := by decide +kernel
theorem dX11_carriedOut_131 : decode cX11_carriedOut 131 = .ok (.iload_n 2, 1) := by decide +kernel
theorem dX11_carriedOut_132 : decode cX11_carriedOut 132 = .ok (.invokevirtual 372, 3) := by decide +kernel
theorem dX11_carriedOut_135 : decode cX11_carriedOut 135 = .ok (.ireturn, 1) := by decide +kernel
theorem dX11_carriedOut_136 : decode cX11_carriedOut 136 = .ok (.aload_n 0, 1) := by decide +kernel
theorem dX11_carriedOut_137 : decode cX11_carriedOut 137 = .ok (.invokevirtual 375, 3) := by decide +kernel
theorem dX11_carriedOut_140 : decode cX11_carriedOut 140 = .ok (.iconst (-1), 1) := by decide +kernel
theorem dX11_carriedOut_141 : decode cX11_carriedOut 141 = .ok (.if_icmp .eq 7, 3) := by decide +kernel
theorem dX11_carriedOut_144 : decode cX11_carriedOut 144 = .ok (.iconst 1, 1) := by decide +kernel
theorem dX11_carriedOut_145 : decode cX11_carriedOut 145 = .ok (.goto 4, 3) := by decide +kernel
theorem dX11_carriedOut_148 : decode cX11_carriedOut 148 = .ok (.iconst 0, 1) := by decide +kernel
theorem dX11_carriedOut_149 : decode cX11_carriedOut 149 = .ok (.ireturn, 1) := by decide +kernel
theorem dX11_carriedOut_150 : decode cX11_carriedOut 150 = .ok (.aload_n 0, 1) := by decide +kernel
theorem dX11_carriedOut_151 : decode cX11_carriedOut 151 = .ok (.iload_n 2, 1) := by decide +kernel
theorem dX11_carriedOut_152 : decode cX11_carriedOut 152 = .ok (.invokevirtual 378, 3) := by decide +kernel
theorem dX11_carriedOut_155 : decode cX11_carriedOut 155 = .ok (.ireturn, 1) := by decide +kernel
theorem dX11_carriedOut_156 : decode cX11_carriedOut 156 = .ok (.iconst 1, 1) := by decide +kernel
theorem dX11_carriedOut_157 : decode cX11_carriedOut 157 = .ok (.ireturn, 1) := by decide +kernel
def Fm_carriedOut (x1 : Int32) (x2 : Int32) (x3 : Int32) (ν : Nm) : Option (Bool × Nm) :=
  (if x1 = (4 : Int32) then
    (Fm_cord x2 x3 ν).bind fun v1 =>
    (if v1.1 = (-1 : Int32) then
      some (false, v1.2)
    else
      some (true, v1.2))
  else
  (if x1 = (6 : Int32) then
    (Fm_hands x2 ν).bind fun v4 =>
    some (v4.1, v4.2)
  else
  (if x1 = (7 : Int32) then
    (Fm_light x2 (0 : Int32) ν).bind fun v6 =>
    (if v6.1 = (-1 : Int32) then
      some (false, v6.2)
    else
      some (true, v6.2))
  else
  (if x1 = (8 : Int32) then
    (Fm_light x2 (1 : Int32) ν).bind fun v9 =>
    (if v9.1 = (-1 : Int32) then
      some (false, v9.2)
    else
      some (true, v9.2))
  else
  (if x1 = (9 : Int32) then
    (Fm_snuff x2 (0 : Int32) ν).bind fun v12 =>
    (if ¬ (b2i v12.1) = 0 then
      some (true, v12.2)
    else
      (Fm_snuff x2 (1 : Int32) v12.2).bind fun v14 =>
      (if (b2i v14.1) = 0 then
        some (false, v14.2)
      else
        some (true, v14.2)))
  else
  (if x1 = (10 : Int32) then
    (Fm_renew x2 ν).bind fun v17 =>
    some (v17.1, v17.2)
  else
  (if x1 = (11 : Int32) then
    (Fm_burn ν).bind fun v19 =>
    (if v19.1 = (-1 : Int32) then
      some (false, v19.2)
    else
      some (true, v19.2))
  else
  (if x1 = (12 : Int32) then
    (Fm_minutesPassed x2 ν).bind fun v22 =>
    some (v22.1, v22.2)
  else
    some (true, ν)))))))))
set_option maxRecDepth 100000 in
set_option maxHeartbeats 4000000 in
theorem t_Fm_carriedOut {g : GG} {d : Nat} (hd0 : 7 ≤ d) : ∀ (x1 : Int32) (x2 : Int32) (x3 : Int32) (ν : Nm) (r : (Bool × Nm)), Fm_carriedOut x1 x2 x3 ν = some r → Z g d (0, 0) mX11_carriedOut 333 0 0 0 [(0, .ref 0), (1, .int x1), (2, .int x2), (3, .int x3)] [] (zem ν) (zF g (some (.int (b2i r.1)), zem r.2)) := by
  intro x1 x2 x3 ν r h
  unfold Fm_carriedOut at h
  refine z_iload_n dX11_carriedOut_0 1 rfl ?_
  by_cases hc3 : x1 = (4 : Int32)
  · replace h := oT hc3 h
    refine y_sw (4 : Int32) (4) 52 dX11_carriedOut_1 hc3 rfl (by decide) (by decide) rfl rfl ?_
    refine z_aload_n dX11_carriedOut_52 0 rfl ?_
    refine z_iload_n dX11_carriedOut_53 2 rfl ?_
    refine z_iload_n dX11_carriedOut_54 3 rfl ?_
    obtain ⟨v1, he1, h⟩ := obind h
    refine y_Vi (M := mX11_carriedOut) (Y := mX11_cord) (d2 := d - 1) (As := [.int x2, .int x3]) (st := []) dX11_carriedOut_55 mlRX11_359 cv_X11_cord zk_0 (ct_Fm_cord (dle (Nat.le_of_ble_eq_true rfl) hd0) he1) (dps (Nat.le_of_ble_eq_true rfl) hd0) rfl rfl (Nat.le_of_ble_eq_true rfl) ?_
    refine z_iconst (M := mX11_carriedOut) (v := -1) dX11_carriedOut_58 rfl ?_
    refine z_icmp_eq 66 dX11_carriedOut_59 rfl (fun hc2 => ?_) (fun hc2 => ?_)
    · replace h := oT hc2 h
      refine z_iconst (M := mX11_carriedOut) (v := 0) dX11_carriedOut_66 rfl ?_
      cases h
      exact z_zret dX11_carriedOut_67 rfl rfl
    · replace h := oF hc2 h
      refine z_iconst (M := mX11_carriedOut) (v := 1) dX11_carriedOut_62 rfl ?_
      refine z_goto 67 dX11_carriedOut_63 rfl ?_
      cases h
      exact z_zret dX11_carriedOut_67 rfl rfl
  replace h := oF hc3 h
  by_cases hc5 : x1 = (6 : Int32)
  · replace h := oT hc5 h
    refine y_sw (6 : Int32) (6) 68 dX11_carriedOut_1 hc5 rfl (by decide) (by decide) rfl rfl ?_
    refine z_aload_n dX11_carriedOut_68 0 rfl ?_
    refine z_iload_n dX11_carriedOut_69 2 rfl ?_
    obtain ⟨v4, he4, h⟩ := obind h
    refine y_Vi (M := mX11_carriedOut) (Y := mX11_hands) (d2 := d - 1) (As := [.int x2]) (st := []) dX11_carriedOut_70 mlRX11_362 cv_X11_hands zk_0 (ct_Fm_hands (dle (Nat.le_of_ble_eq_true rfl) hd0) he4) (dps (Nat.le_of_ble_eq_true rfl) hd0) rfl rfl (Nat.le_of_ble_eq_true rfl) ?_
    cases h
    exact z_zret dX11_carriedOut_73 rfl (nar_b2i _)
  replace h := oF hc5 h
  by_cases hc8 : x1 = (7 : Int32)
  · replace h := oT hc8 h
    refine y_sw (7 : Int32) (7) 74 dX11_carriedOut_1 hc8 rfl (by decide) (by decide) rfl rfl ?_
    refine z_aload_n dX11_carriedOut_74 0 rfl ?_
    refine z_iload_n dX11_carriedOut_75 2 rfl ?_
    refine z_iconst (M := mX11_carriedOut) (v := 0) dX11_carriedOut_76 rfl ?_
    obtain ⟨v6, he6, h⟩ := obind h
    refine y_Vi (M := mX11_carriedOut) (Y := mX11_light) (d2 := d - 1) (As := [.int x2, .int (0 : Int32)]) (st := []) dX11_carriedOut_77 mlRX11_364 cv_X11_light zk_0 (ct_Fm_light (dle (Nat.le_of_ble_eq_true rfl) hd0) he6) (dps (Nat.le_of_ble_eq_true rfl) hd0) rfl rfl (Nat.le_of_ble_eq_true rfl) ?_
    refine z_iconst (M := mX11_carriedOut) (v := -1) dX11_carriedOut_80 rfl ?_
    refine z_icmp_eq 88 dX11_carriedOut_81 rfl (fun hc7 => ?_) (fun hc7 => ?_)
    · replace h := oT hc7 h
      refine z_iconst (M := mX11_carriedOut) (v := 0) dX11_carriedOut_88 rfl ?_
      cases h
      exact z_zret dX11_carriedOut_89 rfl rfl
    · replace h := oF hc7 h
      refine z_iconst (M := mX11_carriedOut) (v := 1) dX11_carriedOut_84 rfl ?_
      refine z_goto 89 dX11_carriedOut_85 rfl ?_
      cases h
      exact z_zret dX11_carriedOut_89 rfl rfl
  replace h := oF hc8 h
  by_cases hc11 : x1 = (8 : Int32)
  · replace h := oT hc11 h
    refine y_sw (8 : Int32) (8) 90 dX11_carriedOut_1 hc11 rfl (by decide) (by decide) rfl rfl ?_
    refine z_aload_n dX11_carriedOut_90 0 rfl ?_
    refine z_iload_n dX11_carriedOut_91 2 rfl ?_
    refine z_iconst (M := mX11_carriedOut) (v := 1) dX11_carriedOut_92 rfl ?_
    obtain ⟨v9, he9, h⟩ := obind h
    refine y_Vi (M := mX11_carriedOut) (Y := mX11_light) (d2 := d - 1) (As := [.int x2, .int (1 : Int32)]) (st := []) dX11_carriedOut_93 mlRX11_364 cv_X11_light zk_0 (ct_Fm_light (dle (Nat.le_of_ble_eq_true rfl) hd0) he9) (dps (Nat.le_of_ble_eq_true rfl) hd0) rfl rfl (Nat.le_of_ble_eq_true rfl) ?_
    refine z_iconst (M := mX11_carriedOut) (v := -1) dX11_carriedOut_96 rfl ?_
    refine z_icmp_eq 104 dX11_carriedOut_97 rfl (fun hc10 => ?_) (fun hc10 => ?_)
    · replace h := oT hc10 h
      refine z_iconst (M := mX11_carriedOut) (v := 0) dX11_carriedOut_104 rfl ?_
      cases h
      exact z_zret dX11_carriedOut_105 rfl rfl
    · replace h := oF hc10 h
      refine z_iconst (M := mX11_carriedOut) (v := 1) dX11_carriedOut_100 rfl ?_
      refine z_goto 105 dX11_carriedOut_101 rfl ?_
      cases h
      exact z_zret dX11_carriedOut_105 rfl rfl
  replace h := oF hc11 h
  by_cases hc16 : x1 = (9 : Int32)
  · replace h := oT hc16 h
    refine y_sw (9 : Int32) (9) 106 dX11_carriedOut_1 hc16 rfl (by decide) (by decide) rfl rfl ?_
    refine z_aload_n dX11_carriedOut_106 0 rfl ?_
    refine z_iload_n dX11_carriedOut_107 2 rfl ?_
    refine z_iconst (M := mX11_carriedOut) (v := 0) dX11_carriedOut_108 rfl ?_
    obtain ⟨v12, he12, h⟩ := obind h
    refine y_Vi (M := mX11_carriedOut) (Y := mX11_snuff) (d2 := d - 1) (As := [.int x2, .int (0 : Int32)]) (st := []) dX11_carriedOut_109 mlRX11_368 cv_X11_snuff zk_0 (ct_Fm_snuff (dle (Nat.le_of_ble_eq_true rfl) hd0) he12) (dps (Nat.le_of_ble_eq_true rfl) hd0) rfl rfl (Nat.le_of_ble_eq_true rfl) ?_
    refine z_if_ne 124 dX11_carriedOut_112 rfl (fun hc13 => ?_) (fun hc13 => ?_)
    · replace h := oT hc13 h
      refine z_iconst (M := mX11_carriedOut) (v := 1) dX11_carriedOut_124 rfl ?_
      refine z_goto 129 dX11_carriedOut_125 rfl ?_
      cases h
      exact z_zret dX11_carriedOut_129 rfl rfl
    · replace h := oFn hc13 h
      refine z_aload_n dX11_carriedOut_115 0 rfl ?_
      refine z_iload_n dX11_carriedOut_116 2 rfl ?_
      refine z_iconst (M := mX11_carriedOut) (v := 1) dX11_carriedOut_117 rfl ?_
      obtain ⟨v14, he14, h⟩ := obind h
      refine y_Vi (M := mX11_carriedOut) (Y := mX11_snuff) (d2 := d - 1) (As := [.int x2, .int (1 : Int32)]) (st := []) dX11_carriedOut_118 mlRX11_368 cv_X11_snuff zk_0 (ct_Fm_snuff (dle (Nat.le_of_ble_eq_true rfl) hd0) he14) (dps (Nat.le_of_ble_eq_true rfl) hd0) rfl rfl (Nat.le_of_ble_eq_true rfl) ?_
      refine z_if_eq 128 dX11_carriedOut_121 rfl (fun hc15 => ?_) (fun hc15 => ?_)
      · replace h := oT hc15 h
        refine z_iconst (M := mX11_carriedOut) (v := 0) dX11_carriedOut_128 rfl ?_
        cases h
        exact z_zret dX11_carriedOut_129 rfl rfl
      · replace h := oF hc15 h
        refine z_iconst (M := mX11_carriedOut) (v := 1) dX11_carriedOut_124 rfl ?_
        refine z_goto 129 dX11_carriedOut_125 rfl ?_
        cases h
        exact z_zret dX11_carriedOut_129 rfl rfl
  replace h := oF hc16 h
  by_cases hc18 : x1 = (10 : Int32)
  · replace h := oT hc18 h
    refine y_sw (10 : Int32) (10) 130 dX11_carriedOut_1 hc18 rfl (by decide) (by decide) rfl rfl ?_
    refine z_aload_n dX11_carriedOut_130 0 rfl ?_
    refine z_iload_n dX11_carriedOut_131 2 rfl ?_
    obtain ⟨v17, he17, h⟩ := obind h
    refine y_Vi (M := mX11_carriedOut) (Y := mX11_renew) (d2 := d - 1) (As := [.int x2]) (st := []) dX11_carriedOut_132 mlRX11_372 cv_X11_renew zk_0 (ct_Fm_renew (dle (Nat.le_of_ble_eq_true rfl) hd0) he17) (dps (Nat.le_of_ble_eq_true rfl) hd0) rfl rfl (Nat.le_of_ble_eq_true rfl) ?_
    cases h
    exact z_zret dX11_carriedOut_135 rfl (nar_b2i _)
  replace h := oF hc18 h
  by_cases hc21 : x1 = (11 : Int32)
  · replace h := oT hc21 h
    refine y_sw (11 : Int32) (11) 136 dX11_carriedOut_1 hc21 rfl (by decide) (by decide) rfl rfl ?_
    refine z_aload_n dX11_carriedOut_136 0 rfl ?_
    obtain ⟨v19, he19, h⟩ := obind h
    refine y_Vi (M := mX11_carriedOut) (Y := mX11_burn) (d2 := d - 1) (As := []) (st := []) dX11_carriedOut_137 mlRX11_375 cv_X11_burn zk_0 (ct_Fm_burn (dle (Nat.le_of_ble_eq_true rfl) hd0) he19) (dps (Nat.le_of_ble_eq_true rfl) hd0) rfl rfl (Nat.le_of_ble_eq_true rfl) ?_
    refine z_iconst (M := mX11_carriedOut) (v := -1) dX11_carriedOut_140 rfl ?_
    refine z_icmp_eq 148 dX11_carriedOut_141 rfl (fun hc20 => ?_) (fun hc20 => ?_)
    · replace h := oT hc20 h
      refine z_iconst (M := mX11_carriedOut) (v := 0) dX11_carriedOut_148 rfl ?_
      cases h
      exact z_zret dX11_carriedOut_149 rfl rfl
    · replace h := oF hc20 h
      refine z_iconst (M := mX11_carriedOut) (v := 1) dX11_carriedOut_144 rfl ?_
      refine z_goto 149 dX11_carriedOut_145 rfl ?_
      cases h
      exact z_zret dX11_carriedOut_149 rfl rfl
  replace h := oF hc21 h
  by_cases hc23 : x1 = (12 : Int32)
  · replace h := oT hc23 h
    refine y_sw (12 : Int32) (12) 150 dX11_carriedOut_1 hc23 rfl (by decide) (by decide) rfl rfl ?_
    refine z_aload_n dX11_carriedOut_150 0 rfl ?_
    refine z_iload_n dX11_carriedOut_151 2 rfl ?_
    obtain ⟨v22, he22, h⟩ := obind h
    refine y_Vi (M := mX11_carriedOut) (Y := mX11_minutesPassed) (d2 := d - 1) (As := [.int x2]) (st := []) dX11_carriedOut_152 mlRX11_378 cv_X11_minutesPassed zk_0 (ct_Fm_minutesPassed (dle (Nat.le_of_ble_eq_true rfl) hd0) he22) (dps (Nat.le_of_ble_eq_true rfl) hd0) rfl rfl (Nat.le_of_ble_eq_true rfl) ?_
    cases h
    exact z_zret dX11_carriedOut_155 rfl (nar_b2i _)
  replace h := oF hc23 h
  have zhc3 := i32ne hc3 (z := 4) rfl
  have zhc5 := i32ne hc5 (z := 6) rfl
  have zhc8 := i32ne hc8 (z := 7) rfl
  have zhc11 := i32ne hc11 (z := 8) rfl
  have zhc16 := i32ne hc16 (z := 9) rfl
  have zhc18 := i32ne hc18 (z := 10) rfl
  have zhc21 := i32ne hc21 (z := 11) rfl
  have zhc23 := i32ne hc23 (z := 12) rfl
  by_cases hc24 : x1 = (5 : Int32)
  · refine y_sw (5 : Int32) (5) 156 dX11_carriedOut_1 hc24 rfl (by decide) (by decide) rfl rfl ?_
    refine z_iconst (M := mX11_carriedOut) (v := 1) dX11_carriedOut_156 rfl ?_
    cases h
    exact z_zret dX11_carriedOut_157 rfl rfl
  have zhc24 := i32ne hc24 (z := 5) rfl
  refine z_tableOut 156 dX11_carriedOut_1 (by omega) rfl ?_
  refine z_iconst (M := mX11_carriedOut) (v := 1) dX11_carriedOut_156 rfl ?_
  cases h
  exact z_zret dX11_carriedOut_157 rfl rfl
theorem ct_Fm_carriedOut {g : GG} {d : Nat} {x1 : Int32} {x2 : Int32} {x3 : Int32} {ν : Nm} {r : (Bool × Nm)} (hd0 : 7 ≤ d)  (h : Fm_carriedOut x1 x2 x3 ν = some r) : Ct g d mX11_carriedOut [.ref 0, .int x1, .int x2, .int x3] (zem ν) (some (.int (b2i r.1)), zem r.2) := y_entry in_X11_carriedOut (Nat.le_of_ble_eq_true rfl) rfl (t_Fm_carriedOut hd0 x1 x2 x3 ν r h)
-- FuseMinutes.played(I)I
theorem dX11_played_0 : decode cX11_played 0 = .ok (.aload_n 0, 1) := by decide +kernel
theorem dX11_played_1 : decode cX11_played 1 = .ok (.iload_n 1, 1) := by decide +kernel
theorem dX11_played_2 : decode cX11_played 2 = .ok (.invokevirtual 107, 3) := by decide +kernel
theorem dX11_played_5 : decode cX11_played 5 = .ok (.ifCond .ne 6, 3) := by decide +kernel
theorem dX11_played_8 : decode cX11_played 8 = .ok (.bipush (-2), 2) := by decide +kernel
theorem dX11_played_10 : decode cX11_played 10 = .ok (.ireturn, 1) := by decide +kernel
theorem dX11_played_11 : decode cX11_played 11 = .ok (.aload_n 0, 1) := by decide +kernel
theorem dX11_played_12 : decode cX11_played 12 = .ok (.getfield 28, 3) := by decide +kernel
theorem dX11_played_15 : decode cX11_played 15 = .ok (.iload_n 1, 1) := by decide +kernel
theorem dX11_played_16 : decode cX11_played 16 = .ok (.aaload, 1) := by decide +kernel
theorem dX11_played_17 : decode cX11_played 17 = .ok (.astore_n 2, 1) := by decide +kernel
theorem dX11_played_18 : decode cX11_played 18 = .ok (.iconst 0, 1) := by decide +kernel
theorem dX11_played_19 : decode cX11_played 19 = .ok (.istore_n 3, 1) := by decide +kernel
theorem dX11_played_20 : decode cX11_played 20 = .ok (.iload_n 3, 1) := by decide +kernel
theorem dX11_played_21 : decode cX11_played 21 = .ok (.aload_n 2, 1) := by decide +kernel
theorem dX11_played_22 : decode cX11_played 22 = .ok (.getfield 156, 3) := by decide +kernel
theorem dX11_played_25 : decode cX11_played 25 = .ok (.if_icmp .ge 42, 3) := by decide +kernel
theorem dX11_played_28 : decode cX11_played 28 = .ok (.iload_n 3, 1) := by decide +kernel
theorem dX11_played_29 : decode cX11_played 29 = .ok (.bipush 24, 2) := by decide +kernel
theorem dX11_played_31 : decode cX11_played 31 = .ok (.if_icmp .ge 36, 3) := by decide +kernel
theorem dX11_played_34 : decode cX11_played 34 = .ok (.aload_n 0, 1) := by decide +kernel
theorem dX11_played_35 : decode cX11_played 35 = .ok (.aload_n 2, 1) := by decide +kernel
theorem dX11_played_36 : decode cX11_played 36 = .ok (.getfield 159, 3) := by decide +kernel
theorem dX11_played_39 : decode cX11_played 39 = .ok (.iload_n 3, 1) := by decide +kernel
theorem dX11_played_40 : decode cX11_played 40 = .ok (.iaload, 1) := by decide +kernel
theorem dX11_played_41 : decode cX11_played 41 = .ok (.aload_n 2, 1) := by decide +kernel
theorem dX11_played_42 : decode cX11_played 42 = .ok (.getfield 162, 3) := by decide +kernel
theorem dX11_played_45 : decode cX11_played 45 = .ok (.iload_n 3, 1) := by decide +kernel
theorem dX11_played_46 : decode cX11_played 46 = .ok (.iaload, 1) := by decide +kernel
theorem dX11_played_47 : decode cX11_played 47 = .ok (.aload_n 2, 1) := by decide +kernel
theorem dX11_played_48 : decode cX11_played 48 = .ok (.getfield 165, 3) := by decide +kernel
theorem dX11_played_51 : decode cX11_played 51 = .ok (.iload_n 3, 1) := by decide +kernel
theorem dX11_played_52 : decode cX11_played 52 = .ok (.iaload, 1) := by decide +kernel
theorem dX11_played_53 : decode cX11_played 53 = .ok (.invokevirtual 168, 3) := by decide +kernel
theorem dX11_played_56 : decode cX11_played 56 = .ok (.ifCond .ne 5, 3) := by decide +kernel
theorem dX11_played_59 : decode cX11_played 59 = .ok (.iload_n 3, 1) := by decide +kernel
theorem dX11_played_60 : decode cX11_played 60 = .ok (.ireturn, 1) := by decide +kernel
theorem dX11_played_61 : decode cX11_played 61 = .ok (.iinc 3 1, 3) := by decide +kernel
theorem dX11_played_64 : decode cX11_played 64 = .ok (.goto (-44), 3) := by decide +kernel
theorem dX11_played_67 : decode cX11_played 67 = .ok (.iconst (-1), 1) := by decide +kernel
theorem dX11_played_68 : decode cX11_played 68 = .ok (.ireturn, 1) := by decide +kernel
def Fm_played_20 : Nat → Nat → Int32 → Nm → Option (Int32 × Nm)
  | 0, _, _, _ => none
  | f + 1, x2, x3, ν =>
    (if (gi ν x2 3) ≤ x3 then
      some ((-1 : Int32), ν)
    else
      (if (24 : Int32) ≤ x3 then
        some ((-1 : Int32), ν)
      else
        if inb x3 24 then
        if inb x3 24 then
        if inb x3 24 then
        (Fm_carriedOut (gi ν (x2 + 1) x3.toNatClampNeg) (gi ν (x2 + 2) x3.toNatClampNeg) (gi ν (x2 + 3) x3.toNatClampNeg) ν).bind fun v6 =>
        (if ¬ (b2i v6.1) = 0 then
          (Fm_played_20 f) x2 (x3 + (1 : Int32)) v6.2
        else
          some (x3, v6.2))
        else none
        else none
        else none))
set_option maxRecDepth 100000 in
set_option maxHeartbeats 4000000 in
theorem t_Fm_played_20 {g : GG} {d : Nat} (hd0 : 8 ≤ d) : ∀ (f : Nat), ∀ (x2 : Nat) (x3 : Int32) (ν : Nm) (r : (Int32 × Nm)), zk 333 x2 (7, 0) → Fm_played_20 f x2 x3 ν = some r → Z g d (0, 0) mX11_played 333 0 0 20 [(0, .ref 0), (2, .ref x2), (3, .int x3)] [] (zem ν) (zF g (some (.int r.1), zem r.2)) := by
  intro f
  induction f with
  | zero =>
    intro x2 x3 ν r hq2 h
    cases h
  | succ f ih =>
    intro x2 x3 ν r hq2 h
    rw [Fm_played_20] at h
    refine z_iload_n dX11_played_20 2 rfl ?_
    refine z_aload_n dX11_played_21 1 rfl ?_
    refine y_getI dX11_played_22 hq2 flRX11_156 ?_
    refine z_icmp_ge 67 dX11_played_25 rfl (fun hc1 => ?_) (fun hc1 => ?_)
    · replace h := oT hc1 h
      refine z_iconst (M := mX11_played) (v := -1) dX11_played_67 rfl ?_
      cases h
      exact z_iret dX11_played_68 rfl
    · replace h := oF hc1 h
      refine z_iload_n dX11_played_28 2 rfl ?_
      refine z_bipush (M := mX11_played) (v := 24) dX11_played_29 rfl ?_
      refine z_icmp_ge 67 dX11_played_31 rfl (fun hc2 => ?_) (fun hc2 => ?_)
      · replace h := oT hc2 h
        refine z_iconst (M := mX11_played) (v := -1) dX11_played_67 rfl ?_
        cases h
        exact z_iret dX11_played_68 rfl
      · replace h := oF hc2 h
        refine z_aload_n dX11_played_34 0 rfl ?_
        refine z_aload_n dX11_played_35 1 rfl ?_
        refine y_getR (M := mX11_played) (r := (x2 + 1)) dX11_played_36 hq2 flRX11_159 fr_7_0.1 (fr_7_0.2 _) ?_
        refine z_iload_n dX11_played_39 2 rfl ?_
        obtain ⟨hi3, h⟩ := oif h
        refine y_iald (M := mX11_played) (jj := x3.toNatClampNeg) dX11_played_40 (zko_7_0 hq2) hi3 rfl ?_
        refine z_aload_n dX11_played_41 1 rfl ?_
        refine y_getR (M := mX11_played) (r := (x2 + 2)) dX11_played_42 hq2 flRX11_162 fr_7_1.1 (fr_7_1.2 _) ?_
        refine z_iload_n dX11_played_45 2 rfl ?_
        obtain ⟨hi4, h⟩ := oif h
        refine y_iald (M := mX11_played) (jj := x3.toNatClampNeg) dX11_played_46 (zko_7_1 hq2) hi4 rfl ?_
        refine z_aload_n dX11_played_47 1 rfl ?_
        refine y_getR (M := mX11_played) (r := (x2 + 3)) dX11_played_48 hq2 flRX11_165 fr_7_2.1 (fr_7_2.2 _) ?_
        refine z_iload_n dX11_played_51 2 rfl ?_
        obtain ⟨hi5, h⟩ := oif h
        refine y_iald (M := mX11_played) (jj := x3.toNatClampNeg) dX11_played_52 (zko_7_2 hq2) hi5 rfl ?_
        obtain ⟨v6, he6, h⟩ := obind h
        refine y_Vi (M := mX11_played) (Y := mX11_carriedOut) (d2 := d - 1) (As := [.int (gi ν (x2 + 1) x3.toNatClampNeg), .int (gi ν (x2 + 2) x3.toNatClampNeg), .int (gi ν (x2 + 3) x3.toNatClampNeg)]) (st := []) dX11_played_53 mlRX11_168 cv_X11_carriedOut zk_0 (ct_Fm_carriedOut (dle (Nat.le_of_ble_eq_true rfl) hd0) he6) (dps (Nat.le_of_ble_eq_true rfl) hd0) rfl rfl (Nat.le_of_ble_eq_true rfl) ?_
        refine z_if_ne 61 dX11_played_56 rfl (fun hc7 => ?_) (fun hc7 => ?_)
        · replace h := oT hc7 h
          refine z_iinc (M := mX11_played) (v := (x3 + (1 : Int32))) (lv2 := [(3, .int (x3 + (1 : Int32))), (0, .ref 0), (2, .ref x2)]) dX11_played_61 2 rfl rfl (Nat.le_of_ble_eq_true rfl) rfl ?_
          refine z_goto 20 dX11_played_64 rfl ?_
          refine z_lv (lv2 := [(0, .ref 0), (2, .ref x2), (3, .int (x3 + (1 : Int32)))]) [1, 2, 0] rfl ?_
          exact ih x2 (x3 + (1 : Int32)) v6.2 _ hq2 h
        · replace h := oFn hc7 h
          refine z_iload_n dX11_played_59 2 rfl ?_
          cases h
          exact z_iret dX11_played_60 rfl
def Fm_played (x1 : Int32) (ν : Nm) : Option (Int32 × Nm) :=
  (Fm_hasText ν x1).bind fun v1 =>
  (if ¬ (b2i v1) = 0 then
    if inb x1 4 then
    Fm_played_20 FU (285 + 7 * x1.toNatClampNeg) (0 : Int32) ν
    else none
  else
    some ((-2 : Int32), ν))
set_option maxRecDepth 100000 in
set_option maxHeartbeats 4000000 in
theorem t_Fm_played {g : GG} {d : Nat} (hd0 : 8 ≤ d) : ∀ (x1 : Int32) (ν : Nm) (r : (Int32 × Nm)), Fm_played x1 ν = some r → Z g d (0, 0) mX11_played 333 0 0 0 [(0, .ref 0), (1, .int x1)] [] (zem ν) (zF g (some (.int r.1), zem r.2)) := by
  intro x1 ν r h
  unfold Fm_played at h
  refine z_aload_n dX11_played_0 0 rfl ?_
  refine z_iload_n dX11_played_1 1 rfl ?_
  obtain ⟨v1, he1, h⟩ := obind h
  refine y_Vi (M := mX11_played) (Y := mX11_hasText) (d2 := d - 1) (As := [.int x1]) (st := []) dX11_played_2 mlRX11_107 cv_X11_hasText zk_0 (ct_Fm_hasText (dle (Nat.le_of_ble_eq_true rfl) hd0) he1) (dps (Nat.le_of_ble_eq_true rfl) hd0) rfl rfl (Nat.le_of_ble_eq_true rfl) ?_
  refine z_if_ne 11 dX11_played_5 rfl (fun hc2 => ?_) (fun hc2 => ?_)
  · replace h := oT hc2 h
    refine z_aload_n dX11_played_11 0 rfl ?_
    refine y_getR (M := mX11_played) (r := 273) dX11_played_12 zk_0 flRX11_28 fr_9_3.1 (fr_9_3.2 _) ?_
    refine z_iload_n dX11_played_15 1 rfl ?_
    obtain ⟨hi3, h⟩ := oif h
    refine y_aaldT dX11_played_16 zk_273 hi3 ?_
    refine z_astore_n (M := mX11_played) (lv2 := [(2, .ref (285 + 7 * x1.toNatClampNeg)), (0, .ref 0), (1, .int x1)]) dX11_played_17 (Nat.le_of_ble_eq_true rfl) rfl ?_
    refine z_iconst (M := mX11_played) (v := 0) dX11_played_18 rfl ?_
    refine z_istore_n (M := mX11_played) (lv2 := [(3, .int (0 : Int32)), (2, .ref (285 + 7 * x1.toNatClampNeg)), (0, .ref 0), (1, .int x1)]) dX11_played_19 (Nat.le_of_ble_eq_true rfl) rfl ?_
    refine z_lv (lv2 := [(0, .ref 0), (2, .ref (285 + 7 * x1.toNatClampNeg)), (3, .int (0 : Int32))]) [2, 1, 0] rfl ?_
    exact t_Fm_played_20 hd0 FU (285 + 7 * x1.toNatClampNeg) (0 : Int32) ν _ (zkoT hi3) h
  · replace h := oFn hc2 h
    refine z_bipush (M := mX11_played) (v := -2) dX11_played_8 rfl ?_
    cases h
    exact z_iret dX11_played_10 rfl
theorem ct_Fm_played {g : GG} {d : Nat} {x1 : Int32} {ν : Nm} {r : (Int32 × Nm)} (hd0 : 8 ≤ d)  (h : Fm_played x1 ν = some r) : Ct g d mX11_played [.ref 0, .int x1] (zem ν) (some (.int r.1), zem r.2) := y_entry in_X11_played (Nat.le_of_ble_eq_true rfl) rfl (t_Fm_played hd0 x1 ν r h)
-- FuseMinutes.shiftCord(III)V
theorem dX11_shiftCord_0 : decode cX11_shiftCord 0 = .ok (.iload_n 1, 1) := by decide +kernel
theorem dX11_shiftCord_1 : decode cX11_shiftCord 1 = .ok (.iconst 2, 1) := by decide +kernel
theorem dX11_shiftCord_2 : decode cX11_shiftCord 2 = .ok (.if_icmp .gt 22, 3) := by decide +kernel
theorem dX11_shiftCord_5 : decode cX11_shiftCord 5 = .ok (.aload_n 0, 1) := by decide +kernel
theorem dX11_shiftCord_6 : decode cX11_shiftCord 6 = .ok (.iload_n 2, 1) := by decide +kernel
theorem dX11_shiftCord_7 : decode cX11_shiftCord 7 = .ok (.iload_n 3, 1) := by decide +kernel
theorem dX11_shiftCord_8 : decode cX11_shiftCord 8 = .ok (.invokevirtual 114, 3) := by decide +kernel
theorem dX11_shiftCord_11 : decode cX11_shiftCord 11 = .ok (.ifCond .eq 76, 3) := by decide +kernel
theorem dX11_shiftCord_14 : decode cX11_shiftCord 14 = .ok (.aload_n 0, 1) := by decide +kernel
theorem dX11_shiftCord_15 : decode cX11_shiftCord 15 = .ok (.iload_n 2, 1) := by decide +kernel
theorem dX11_shiftCord_16 : decode cX11_shiftCord 16 = .ok (.iload_n 3, 1) := by decide +kernel
theorem dX11_shiftCord_17 : decode cX11_shiftCord 17 = .ok (.invokevirtual 128, 3) := by decide +kernel
theorem dX11_shiftCord_20 : decode cX11_shiftCord 20 = .ok (.pop, 1) := by decide +kernel
theorem dX11_shiftCord_21 : decode cX11_shiftCord 21 = .ok (.goto 66, 3) := by decide +kernel
theorem dX11_shiftCord_24 : decode cX11_shiftCord 24 = .ok (.iload_n 1, 1) := by decide +kernel
theorem dX11_shiftCord_25 : decode cX11_shiftCord 25 = .ok (.iconst 3, 1) := by decide +kernel
theorem dX11_shiftCord_26 : decode cX11_shiftCord 26 = .ok (.if_icmp .ne 33, 3) := by decide +kernel
theorem dX11_shiftCord_29 : decode cX11_shiftCord 29 = .ok (.aload_n 0, 1) := by decide +kernel
theorem dX11_shiftCord_30 : decode cX11_shiftCord 30 = .ok (.getfield 12, 3) := by decide +kernel
theorem dX11_shiftCord_33 : decode cX11_shiftCord 33 = .ok (.getfield 62, 3) := by decide +kernel
theorem dX11_shiftCord_36 : decode cX11_shiftCord 36 = .ok (.iload_n 2, 1) := by decide +kernel
theorem dX11_shiftCord_37 : decode cX11_shiftCord 37 = .ok (.iload_n 3, 1) := by decide +kernel
theorem dX11_shiftCord_38 : decode cX11_shiftCord 38 = .ok (.invokevirtual 132, 3) := by decide +kernel
theorem dX11_shiftCord_41 : decode cX11_shiftCord 41 = .ok (.ifCond .eq 46, 3) := by decide +kernel
theorem dX11_shiftCord_44 : decode cX11_shiftCord 44 = .ok (.aload_n 0, 1) := by decide +kernel
theorem dX11_shiftCord_45 : decode cX11_shiftCord 45 = .ok (.getfield 12, 3) := by decide +kernel
theorem dX11_shiftCord_48 : decode cX11_shiftCord 48 = .ok (.getfield 62, 3) := by decide +kernel
theorem dX11_shiftCord_51 : decode cX11_shiftCord 51 = .ok (.iload_n 2, 1) := by decide +kernel
theorem dX11_shiftCord_52 : decode cX11_shiftCord 52 = .ok (.iload_n 3, 1) := by decide +kernel
theorem dX11_shiftCord_53 : decode cX11_shiftCord 53 = .ok (.invokevirtual 135, 3) := by decide +kernel
theorem dX11_shiftCord_56 : decode cX11_shiftCord 56 = .ok (.goto 31, 3) := by decide +kernel
theorem dX11_shiftCord_59 : decode cX11_shiftCord 59 = .ok (.aload_n 0, 1) := by decide +kernel
theorem dX11_shiftCord_60 : decode cX11_shiftCord 60 = .ok (.iload_n 2, 1) := by decide +kernel
theorem dX11_shiftCord_61 : decode cX11_shiftCord 61 = .ok (.invokevirtual 139, 3) := by decide +kernel
theorem dX11_shiftCord_64 : decode cX11_shiftCord 64 = .ok (.ifCond .eq 23, 3) := by decide +kernel
theorem dX11_shiftCord_67 : decode cX11_shiftCord 67 = .ok (.aload_n 0, 1) := by decide +kernel
theorem dX11_shiftCord_68 : decode cX11_shiftCord 68 = .ok (.getfield 12, 3) := by decide +kernel
theorem dX11_shiftCord_71 : decode cX11_shiftCord 71 = .ok (.getfield 62, 3) := by decide +kernel
theorem dX11_shiftCord_74 : decode cX11_shiftCord 74 = .ok (.iload_n 2, 1) := by decide +kernel
theorem dX11_shiftCord_75 : decode cX11_shiftCord 75 = .ok (.aload_n 0, 1) := by decide +kernel
theorem dX11_shiftCord_76 : decode cX11_shiftCord 76 = .ok (.getfield 12, 3) := by decide +kernel
theorem dX11_shiftCord_79 : decode cX11_shiftCord 79 = .ok (.getfield 43, 3) := by decide +kernel
theorem dX11_shiftCord_82 : decode cX11_shiftCord 82 = .ok (.iload_n 2, 1) := by decide +kernel
theorem dX11_shiftCord_83 : decode cX11_shiftCord 83 = .ok (.iaload, 1) := by decide +kernel
theorem dX11_shiftCord_84 : decode cX11_shiftCord 84 = .ok (.invokevirtual 142, 3) := by decide +kernel
theorem dX11_shiftCord_87 : decode cX11_shiftCord 87 = .ok (.return_, 1) := by decide +kernel
def Fm_shiftCord (x1 : Int32) (x2 : Int32) (x3 : Int32) (ν : Nm) : Option Nm :=
  (if (2 : Int32) < x1 then
    (if ¬ x1 = (3 : Int32) then
      (Fm_canRenew ν x2).bind fun v3 =>
      (if (b2i v3) = 0 then
        some ν
      else
        if inb x2 4 then
        (Pt_makeNew 2 x2 (gi ν 128 x2.toNatClampNeg) ν).bind fun v6 =>
        some v6
        else none)
    else
      (Pt_burns ν 2 x2 x3).bind fun v7 =>
      (if (b2i v7) = 0 then
        some ν
      else
        (Pt_putOut 2 x2 x3 ν).bind fun v9 =>
        some v9))
  else
    (Fm_canLight x2 x3 ν).bind fun v10 =>
    (if (b2i v10.1) = 0 then
      some v10.2
    else
      (Fm_kindle x2 x3 v10.2).bind fun v12 =>
      some v12.2))
set_option maxRecDepth 100000 in
set_option maxHeartbeats 4000000 in
theorem t_Fm_shiftCord {g : GG} {d : Nat} (hd0 : 6 ≤ d) : ∀ (x1 : Int32) (x2 : Int32) (x3 : Int32) (ν : Nm) (r : Nm), Fm_shiftCord x1 x2 x3 ν = some r → Z g d (0, 0) mX11_shiftCord 333 0 0 0 [(0, .ref 0), (1, .int x1), (2, .int x2), (3, .int x3)] [] (zem ν) (zF g (none, zem r)) := by
  intro x1 x2 x3 ν r h
  unfold Fm_shiftCord at h
  refine z_iload_n dX11_shiftCord_0 1 rfl ?_
  refine z_iconst (M := mX11_shiftCord) (v := 2) dX11_shiftCord_1 rfl ?_
  refine z_icmp_gt 24 dX11_shiftCord_2 rfl (fun hc1 => ?_) (fun hc1 => ?_)
  · replace h := oT hc1 h
    refine z_iload_n dX11_shiftCord_24 1 rfl ?_
    refine z_iconst (M := mX11_shiftCord) (v := 3) dX11_shiftCord_25 rfl ?_
    refine z_icmp_ne 59 dX11_shiftCord_26 rfl (fun hc2 => ?_) (fun hc2 => ?_)
    · replace h := oT hc2 h
      refine z_aload_n dX11_shiftCord_59 0 rfl ?_
      refine z_iload_n dX11_shiftCord_60 2 rfl ?_
      obtain ⟨v3, he3, h⟩ := obind h
      refine y_Vi (M := mX11_shiftCord) (Y := mX11_canRenew) (d2 := d - 1) (As := [.int x2]) (st := []) dX11_shiftCord_61 mlRX11_139 cv_X11_canRenew zk_0 (ct_Fm_canRenew (dle (Nat.le_of_ble_eq_true rfl) hd0) he3) (dps (Nat.le_of_ble_eq_true rfl) hd0) rfl rfl (Nat.le_of_ble_eq_true rfl) ?_
      refine z_if_eq 87 dX11_shiftCord_64 rfl (fun hc4 => ?_) (fun hc4 => ?_)
      · replace h := oT hc4 h
        cases h
        exact z_vret dX11_shiftCord_87 rfl
      · replace h := oF hc4 h
        refine z_aload_n dX11_shiftCord_67 0 rfl ?_
        refine y_getR (M := mX11_shiftCord) (r := 1) dX11_shiftCord_68 zk_0 flRX11_12 fr_9_0.1 (fr_9_0.2 _) ?_
        refine y_getR (M := mX11_shiftCord) (r := 2) dX11_shiftCord_71 zk_1 flRX11_62 fr_5_0.1 (fr_5_0.2 _) ?_
        refine z_iload_n dX11_shiftCord_74 2 rfl ?_
        refine z_aload_n dX11_shiftCord_75 0 rfl ?_
        refine y_getR (M := mX11_shiftCord) (r := 1) dX11_shiftCord_76 zk_0 flRX11_12 fr_9_0.1 (fr_9_0.2 _) ?_
        refine y_getR (M := mX11_shiftCord) (r := 128) dX11_shiftCord_79 zk_1 flRX11_43 fr_5_2.1 (fr_5_2.2 _) ?_
        refine z_iload_n dX11_shiftCord_82 2 rfl ?_
        obtain ⟨hi5, h⟩ := oif h
        refine y_iald (M := mX11_shiftCord) (jj := x2.toNatClampNeg) dX11_shiftCord_83 zk_128 hi5 rfl ?_
        obtain ⟨v6, he6, h⟩ := obind h
        refine y_Vv (M := mX11_shiftCord) (Y := mX2_makeNew) (d2 := d - 1) (As := [.int x2, .int (gi ν 128 x2.toNatClampNeg)]) (st := []) dX11_shiftCord_84 mlRX11_142 cv_X2_makeNew zk_2 (ct_Pt_makeNew (dle (Nat.le_of_ble_eq_true rfl) hd0) zk_2 he6) (dps (Nat.le_of_ble_eq_true rfl) hd0) rfl rfl (Nat.le_of_ble_eq_true rfl) ?_
        cases h
        exact z_vret dX11_shiftCord_87 rfl
    · replace h := oFn hc2 h
      refine z_aload_n dX11_shiftCord_29 0 rfl ?_
      refine y_getR (M := mX11_shiftCord) (r := 1) dX11_shiftCord_30 zk_0 flRX11_12 fr_9_0.1 (fr_9_0.2 _) ?_
      refine y_getR (M := mX11_shiftCord) (r := 2) dX11_shiftCord_33 zk_1 flRX11_62 fr_5_0.1 (fr_5_0.2 _) ?_
      refine z_iload_n dX11_shiftCord_36 2 rfl ?_
      refine z_iload_n dX11_shiftCord_37 3 rfl ?_
      obtain ⟨v7, he7, h⟩ := obind h
      refine y_Vi (M := mX11_shiftCord) (Y := mX2_burns) (d2 := d - 1) (As := [.int x2, .int x3]) (st := []) dX11_shiftCord_38 mlRX11_132 cv_X2_burns zk_2 (ct_Pt_burns (dle (Nat.le_of_ble_eq_true rfl) hd0) zk_2 he7) (dps (Nat.le_of_ble_eq_true rfl) hd0) rfl rfl (Nat.le_of_ble_eq_true rfl) ?_
      refine z_if_eq 87 dX11_shiftCord_41 rfl (fun hc8 => ?_) (fun hc8 => ?_)
      · replace h := oT hc8 h
        cases h
        exact z_vret dX11_shiftCord_87 rfl
      · replace h := oF hc8 h
        refine z_aload_n dX11_shiftCord_44 0 rfl ?_
        refine y_getR (M := mX11_shiftCord) (r := 1) dX11_shiftCord_45 zk_0 flRX11_12 fr_9_0.1 (fr_9_0.2 _) ?_
        refine y_getR (M := mX11_shiftCord) (r := 2) dX11_shiftCord_48 zk_1 flRX11_62 fr_5_0.1 (fr_5_0.2 _) ?_
        refine z_iload_n dX11_shiftCord_51 2 rfl ?_
        refine z_iload_n dX11_shiftCord_52 3 rfl ?_
        obtain ⟨v9, he9, h⟩ := obind h
        refine y_Vv (M := mX11_shiftCord) (Y := mX2_putOut) (d2 := d - 1) (As := [.int x2, .int x3]) (st := []) dX11_shiftCord_53 mlRX11_135 cv_X2_putOut zk_2 (ct_Pt_putOut (dle (Nat.le_of_ble_eq_true rfl) hd0) zk_2 he9) (dps (Nat.le_of_ble_eq_true rfl) hd0) rfl rfl (Nat.le_of_ble_eq_true rfl) ?_
        refine z_goto 87 dX11_shiftCord_56 rfl ?_
        cases h
        exact z_vret dX11_shiftCord_87 rfl
  · replace h := oF hc1 h
    refine z_aload_n dX11_shiftCord_5 0 rfl ?_
    refine z_iload_n dX11_shiftCord_6 2 rfl ?_
    refine z_iload_n dX11_shiftCord_7 3 rfl ?_
    obtain ⟨v10, he10, h⟩ := obind h
    refine y_Vi (M := mX11_shiftCord) (Y := mX11_canLight) (d2 := d - 1) (As := [.int x2, .int x3]) (st := []) dX11_shiftCord_8 mlRX11_114 cv_X11_canLight zk_0 (ct_Fm_canLight (dle (Nat.le_of_ble_eq_true rfl) hd0) he10) (dps (Nat.le_of_ble_eq_true rfl) hd0) rfl rfl (Nat.le_of_ble_eq_true rfl) ?_
    refine z_if_eq 87 dX11_shiftCord_11 rfl (fun hc11 => ?_) (fun hc11 => ?_)
    · replace h := oT hc11 h
      cases h
      exact z_vret dX11_shiftCord_87 rfl
    · replace h := oF hc11 h
      refine z_aload_n dX11_shiftCord_14 0 rfl ?_
      refine z_iload_n dX11_shiftCord_15 2 rfl ?_
      refine z_iload_n dX11_shiftCord_16 3 rfl ?_
      obtain ⟨v12, he12, h⟩ := obind h
      refine y_Vi (M := mX11_shiftCord) (Y := mX11_kindle) (d2 := d - 1) (As := [.int x2, .int x3]) (st := []) dX11_shiftCord_17 mlRX11_128 cv_X11_kindle zk_0 (ct_Fm_kindle (dle (Nat.le_of_ble_eq_true rfl) hd0) he12) (dps (Nat.le_of_ble_eq_true rfl) hd0) rfl rfl (Nat.le_of_ble_eq_true rfl) ?_
      refine z_pop dX11_shiftCord_20 rfl ?_
      refine z_goto 87 dX11_shiftCord_21 rfl ?_
      cases h
      exact z_vret dX11_shiftCord_87 rfl
theorem ct_Fm_shiftCord {g : GG} {d : Nat} {x1 : Int32} {x2 : Int32} {x3 : Int32} {ν : Nm} {r : Nm} (hd0 : 6 ≤ d)  (h : Fm_shiftCord x1 x2 x3 ν = some r) : Ct g d mX11_shiftCord [.ref 0, .int x1, .int x2, .int x3] (zem ν) (none, zem r) := y_entry in_X11_shiftCord (Nat.le_of_ble_eq_true rfl) rfl (t_Fm_shiftCord hd0 x1 x2 x3 ν r h)
-- FuseMinutes.shiftBy(I)V
theorem dX11_shiftBy_0 : decode cX11_shiftBy 0 = .ok (.iload_n 1, 1) := by decide +kernel
theorem dX11_shiftBy_1 : decode cX11_shiftBy 1 = .ok (.bipush 7, 2) := by decide +kernel
theorem dX11_shiftBy_3 : decode cX11_shiftBy 3 = .ok (.irem, 1) := by decide +kernel
theorem dX11_shiftBy_4 : decode cX11_shiftBy 4 = .ok (.istore_n 2, 1) := by decide +kernel
theorem dX11_shiftBy_5 : decode cX11_shiftBy 5 = .ok (.iload_n 2, 1) := by decide +kernel
theorem dX11_shiftBy_6 : decode cX11_shiftBy 6 = .ok (.iconst 5, 1) := by decide +kernel
theorem dX11_shiftBy_7 : decode cX11_shiftBy 7 = .ok (.if_icmp .ne 34, 3) := by decide +kernel
theorem dX11_shiftBy_10 : decode cX11_shiftBy 10 = .ok (.aload_n 0, 1) := by decide +kernel
theorem dX11_shiftBy_11 : decode cX11_shiftBy 11 = .ok (.getfield 12, 3) := by decide +kernel
theorem dX11_shiftBy_14 : decode cX11_shiftBy 14 = .ok (.getfield 62, 3) := by decide +kernel
theorem dX11_shiftBy_17 : decode cX11_shiftBy 17 = .ok (.invokevirtual 145, 3) := by decide +kernel
theorem dX11_shiftBy_20 : decode cX11_shiftBy 20 = .ok (.istore_n 3, 1) := by decide +kernel
theorem dX11_shiftBy_21 : decode cX11_shiftBy 21 = .ok (.iload_n 3, 1) := by decide +kernel
theorem dX11_shiftBy_22 : decode cX11_shiftBy 22 = .ok (.iconst (-1), 1) := by decide +kernel
theorem dX11_shiftBy_23 : decode cX11_shiftBy 23 = .ok (.if_icmp .eq 15, 3) := by decide +kernel
theorem dX11_shiftBy_26 : decode cX11_shiftBy 26 = .ok (.aload_n 0, 1) := by decide +kernel
theorem dX11_shiftBy_27 : decode cX11_shiftBy 27 = .ok (.getfield 12, 3) := by decide +kernel
theorem dX11_shiftBy_30 : decode cX11_shiftBy 30 = .ok (.getfield 62, 3) := by decide +kernel
theorem dX11_shiftBy_33 : decode cX11_shiftBy 33 = .ok (.iload_n 3, 1) := by decide +kernel
theorem dX11_shiftBy_34 : decode cX11_shiftBy 34 = .ok (.invokevirtual 149, 3) := by decide +kernel
theorem dX11_shiftBy_37 : decode cX11_shiftBy 37 = .ok (.pop, 1) := by decide +kernel
theorem dX11_shiftBy_38 : decode cX11_shiftBy 38 = .ok (.goto 83, 3) := by decide +kernel
theorem dX11_shiftBy_41 : decode cX11_shiftBy 41 = .ok (.iload_n 2, 1) := by decide +kernel
theorem dX11_shiftBy_42 : decode cX11_shiftBy 42 = .ok (.bipush 6, 2) := by decide +kernel
theorem dX11_shiftBy_44 : decode cX11_shiftBy 44 = .ok (.if_icmp .ne 41, 3) := by decide +kernel
theorem dX11_shiftBy_47 : decode cX11_shiftBy 47 = .ok (.iconst 1, 1) := by decide +kernel
theorem dX11_shiftBy_48 : decode cX11_shiftBy 48 = .ok (.iload_n 1, 1) := by decide +kernel
theorem dX11_shiftBy_49 : decode cX11_shiftBy 49 = .ok (.iconst 5, 1) := by decide +kernel
theorem dX11_shiftBy_50 : decode cX11_shiftBy 50 = .ok (.irem, 1) := by decide +kernel
theorem dX11_shiftBy_51 : decode cX11_shiftBy 51 = .ok (.iadd, 1) := by decide +kernel
theorem dX11_shiftBy_52 : decode cX11_shiftBy 52 = .ok (.istore_n 3, 1) := by decide +kernel
theorem dX11_shiftBy_53 : decode cX11_shiftBy 53 = .ok (.aload_n 0, 1) := by decide +kernel
theorem dX11_shiftBy_54 : decode cX11_shiftBy 54 = .ok (.getfield 12, 3) := by decide +kernel
theorem dX11_shiftBy_57 : decode cX11_shiftBy 57 = .ok (.getfield 62, 3) := by decide +kernel
theorem dX11_shiftBy_60 : decode cX11_shiftBy 60 = .ok (.iload_n 3, 1) := by decide +kernel
theorem dX11_shiftBy_61 : decode cX11_shiftBy 61 = .ok (.invokevirtual 153, 3) := by decide +kernel
theorem dX11_shiftBy_64 : decode cX11_shiftBy 64 = .ok (.ifCond .eq 18, 3) := by decide +kernel
theorem dX11_shiftBy_67 : decode cX11_shiftBy 67 = .ok (.aload_n 0, 1) := by decide +kernel
theorem dX11_shiftBy_68 : decode cX11_shiftBy 68 = .ok (.getfield 12, 3) := by decide +kernel
theorem dX11_shiftBy_71 : decode cX11_shiftBy 71 = .ok (.getfield 62, 3) := by decide +kernel
theorem dX11_shiftBy_74 : decode cX11_shiftBy 74 = .ok (.iload_n 3, 1) := by decide +kernel
theorem dX11_shiftBy_75 : decode cX11_shiftBy 75 = .ok (.bipush 64, 2) := by decide +kernel
theorem dX11_shiftBy_77 : decode cX11_shiftBy 77 = .ok (.imul, 1) := by decide +kernel
theorem dX11_shiftBy_78 : decode cX11_shiftBy 78 = .ok (.invokevirtual 149, 3) := by decide +kernel
theorem dX11_shiftBy_81 : decode cX11_shiftBy 81 = .ok (.pop, 1) := by decide +kernel
theorem dX11_shiftBy_82 : decode cX11_shiftBy 82 = .ok (.goto 39, 3) := by decide +kernel
theorem dX11_shiftBy_85 : decode cX11_shiftBy 85 = .ok (.aload_n 0, 1) := by decide +kernel
theorem dX11_shiftBy_86 : decode cX11_shiftBy 86 = .ok (.getfield 12, 3) := by decide +kernel
theorem dX11_shiftBy_89 : decode cX11_shiftBy 89 = .ok (.getfield 62, 3) := by decide +kernel
theorem dX11_shiftBy_92 : decode cX11_shiftBy 92 = .ok (.getfield 66, 3) := by decide +kernel
theorem dX11_shiftBy_95 : decode cX11_shiftBy 95 = .ok (.ifCond .le 26, 3) := by decide +kernel
theorem dX11_shiftBy_98 : decode cX11_shiftBy 98 = .ok (.aload_n 0, 1) := by decide +kernel
theorem dX11_shiftBy_99 : decode cX11_shiftBy 99 = .ok (.iload_n 2, 1) := by decide +kernel
theorem dX11_shiftBy_100 : decode cX11_shiftBy 100 = .ok (.iload_n 1, 1) := by decide +kernel
theorem dX11_shiftBy_101 : decode cX11_shiftBy 101 = .ok (.aload_n 0, 1) := by decide +kernel
theorem dX11_shiftBy_102 : decode cX11_shiftBy 102 = .ok (.getfield 12, 3) := by decide +kernel
theorem dX11_shiftBy_105 : decode cX11_shiftBy 105 = .ok (.getfield 62, 3) := by decide +kernel
theorem dX11_shiftBy_108 : decode cX11_shiftBy 108 = .ok (.getfield 66, 3) := by decide +kernel
theorem dX11_shiftBy_111 : decode cX11_shiftBy 111 = .ok (.irem, 1) := by decide +kernel
theorem dX11_shiftBy_112 : decode cX11_shiftBy 112 = .ok (.iload_n 1, 1) := by decide +kernel
theorem dX11_shiftBy_113 : decode cX11_shiftBy 113 = .ok (.bipush 7, 2) := by decide +kernel
theorem dX11_shiftBy_115 : decode cX11_shiftBy 115 = .ok (.idiv, 1) := by decide +kernel
theorem dX11_shiftBy_116 : decode cX11_shiftBy 116 = .ok (.iconst 2, 1) := by decide +kernel
theorem dX11_shiftBy_117 : decode cX11_shiftBy 117 = .ok (.irem, 1) := by decide +kernel
theorem dX11_shiftBy_118 : decode cX11_shiftBy 118 = .ok (.invokevirtual 384, 3) := by decide +kernel
theorem dX11_shiftBy_121 : decode cX11_shiftBy 121 = .ok (.return_, 1) := by decide +kernel
def Fm_shiftBy (x1 : Int32) (ν : Nm) : Option Nm :=
  (if ¬ (x1 - x1 / (7 : Int32) * (7 : Int32)) = (5 : Int32) then
    (if ¬ (x1 - x1 / (7 : Int32) * (7 : Int32)) = (6 : Int32) then
      (if (gi ν 2 0) ≤ 0 then
        some ν
      else
        if (gi ν 2 0) = 0 then none else
        (Fm_shiftCord (x1 - x1 / (7 : Int32) * (7 : Int32)) (x1 - x1 / (gi ν 2 0) * (gi ν 2 0)) ((x1 / (7 : Int32)) - (x1 / (7 : Int32)) / (2 : Int32) * (2 : Int32)) ν).bind fun v5 =>
        some v5)
    else
      (Pt_hasTimeFor ν 2 ((1 : Int32) + (x1 - x1 / (5 : Int32) * (5 : Int32)))).bind fun v6 =>
      (if (b2i v6) = 0 then
        some ν
      else
        (Pt_pass 2 (((1 : Int32) + (x1 - x1 / (5 : Int32) * (5 : Int32))) * (64 : Int32)) ν).bind fun v8 =>
        some v8.2))
  else
    (Pt_sparksToBurn ν 2).bind fun v9 =>
    (if v9 = (-1 : Int32) then
      some ν
    else
      (Pt_pass 2 v9 ν).bind fun v11 =>
      some v11.2))
set_option maxRecDepth 100000 in
set_option maxHeartbeats 4000000 in
theorem t_Fm_shiftBy {g : GG} {d : Nat} (hd0 : 7 ≤ d) : ∀ (x1 : Int32) (ν : Nm) (r : Nm), Fm_shiftBy x1 ν = some r → Z g d (0, 0) mX11_shiftBy 333 0 0 0 [(0, .ref 0), (1, .int x1)] [] (zem ν) (zF g (none, zem r)) := by
  intro x1 ν r h
  unfold Fm_shiftBy at h
  refine z_iload_n dX11_shiftBy_0 1 rfl ?_
  refine z_bipush (M := mX11_shiftBy) (v := 7) dX11_shiftBy_1 rfl ?_
  refine z_irem dX11_shiftBy_3 (by decide) ?_
  refine z_istore_n (M := mX11_shiftBy) (lv2 := [(2, .int (x1 - x1 / (7 : Int32) * (7 : Int32))), (0, .ref 0), (1, .int x1)]) dX11_shiftBy_4 (Nat.le_of_ble_eq_true rfl) rfl ?_
  refine z_iload_n dX11_shiftBy_5 0 rfl ?_
  refine z_iconst (M := mX11_shiftBy) (v := 5) dX11_shiftBy_6 rfl ?_
  refine z_icmp_ne 41 dX11_shiftBy_7 rfl (fun hc1 => ?_) (fun hc1 => ?_)
  · replace h := oT hc1 h
    refine z_iload_n dX11_shiftBy_41 0 rfl ?_
    refine z_bipush (M := mX11_shiftBy) (v := 6) dX11_shiftBy_42 rfl ?_
    refine z_icmp_ne 85 dX11_shiftBy_44 rfl (fun hc2 => ?_) (fun hc2 => ?_)
    · replace h := oT hc2 h
      refine z_aload_n dX11_shiftBy_85 1 rfl ?_
      refine y_getR (M := mX11_shiftBy) (r := 1) dX11_shiftBy_86 zk_0 flRX11_12 fr_9_0.1 (fr_9_0.2 _) ?_
      refine y_getR (M := mX11_shiftBy) (r := 2) dX11_shiftBy_89 zk_1 flRX11_62 fr_5_0.1 (fr_5_0.2 _) ?_
      refine y_getI dX11_shiftBy_92 zk_2 flRX11_66 ?_
      refine z_if_le 121 dX11_shiftBy_95 rfl (fun hc3 => ?_) (fun hc3 => ?_)
      · replace h := oT hc3 h
        cases h
        exact z_vret dX11_shiftBy_121 rfl
      · replace h := oF hc3 h
        refine z_aload_n dX11_shiftBy_98 1 rfl ?_
        refine z_iload_n dX11_shiftBy_99 0 rfl ?_
        refine z_iload_n dX11_shiftBy_100 2 rfl ?_
        refine z_aload_n dX11_shiftBy_101 1 rfl ?_
        refine y_getR (M := mX11_shiftBy) (r := 1) dX11_shiftBy_102 zk_0 flRX11_12 fr_9_0.1 (fr_9_0.2 _) ?_
        refine y_getR (M := mX11_shiftBy) (r := 2) dX11_shiftBy_105 zk_1 flRX11_62 fr_5_0.1 (fr_5_0.2 _) ?_
        refine y_getI dX11_shiftBy_108 zk_2 flRX11_66 ?_
        obtain ⟨hz4, h⟩ := oifn h
        refine z_irem dX11_shiftBy_111 hz4 ?_
        refine z_iload_n dX11_shiftBy_112 2 rfl ?_
        refine z_bipush (M := mX11_shiftBy) (v := 7) dX11_shiftBy_113 rfl ?_
        refine z_idiv dX11_shiftBy_115 (by decide) ?_
        refine z_iconst (M := mX11_shiftBy) (v := 2) dX11_shiftBy_116 rfl ?_
        refine z_irem dX11_shiftBy_117 (by decide) ?_
        obtain ⟨v5, he5, h⟩ := obind h
        refine y_Vv (M := mX11_shiftBy) (Y := mX11_shiftCord) (d2 := d - 1) (As := [.int (x1 - x1 / (7 : Int32) * (7 : Int32)), .int (x1 - x1 / (gi ν 2 0) * (gi ν 2 0)), .int ((x1 / (7 : Int32)) - (x1 / (7 : Int32)) / (2 : Int32) * (2 : Int32))]) (st := []) dX11_shiftBy_118 mlRX11_384 cv_X11_shiftCord zk_0 (ct_Fm_shiftCord (dle (Nat.le_of_ble_eq_true rfl) hd0) he5) (dps (Nat.le_of_ble_eq_true rfl) hd0) rfl rfl (Nat.le_of_ble_eq_true rfl) ?_
        cases h
        exact z_vret dX11_shiftBy_121 rfl
    · replace h := oFn hc2 h
      refine z_iconst (M := mX11_shiftBy) (v := 1) dX11_shiftBy_47 rfl ?_
      refine z_iload_n dX11_shiftBy_48 2 rfl ?_
      refine z_iconst (M := mX11_shiftBy) (v := 5) dX11_shiftBy_49 rfl ?_
      refine z_irem dX11_shiftBy_50 (by decide) ?_
      refine z_iadd dX11_shiftBy_51 ?_
      refine z_istore_n (M := mX11_shiftBy) (lv2 := [(3, .int ((1 : Int32) + (x1 - x1 / (5 : Int32) * (5 : Int32)))), (2, .int (x1 - x1 / (7 : Int32) * (7 : Int32))), (0, .ref 0), (1, .int x1)]) dX11_shiftBy_52 (Nat.le_of_ble_eq_true rfl) rfl ?_
      refine z_aload_n dX11_shiftBy_53 2 rfl ?_
      refine y_getR (M := mX11_shiftBy) (r := 1) dX11_shiftBy_54 zk_0 flRX11_12 fr_9_0.1 (fr_9_0.2 _) ?_
      refine y_getR (M := mX11_shiftBy) (r := 2) dX11_shiftBy_57 zk_1 flRX11_62 fr_5_0.1 (fr_5_0.2 _) ?_
      refine z_iload_n dX11_shiftBy_60 0 rfl ?_
      obtain ⟨v6, he6, h⟩ := obind h
      refine y_Vi (M := mX11_shiftBy) (Y := mX2_hasTimeFor) (d2 := d - 1) (As := [.int ((1 : Int32) + (x1 - x1 / (5 : Int32) * (5 : Int32)))]) (st := []) dX11_shiftBy_61 mlRX11_153 cv_X2_hasTimeFor zk_2 (ct_Pt_hasTimeFor (dle (Nat.le_of_ble_eq_true rfl) hd0) zk_2 he6) (dps (Nat.le_of_ble_eq_true rfl) hd0) rfl rfl (Nat.le_of_ble_eq_true rfl) ?_
      refine z_if_eq 82 dX11_shiftBy_64 rfl (fun hc7 => ?_) (fun hc7 => ?_)
      · replace h := oT hc7 h
        refine z_goto 121 dX11_shiftBy_82 rfl ?_
        cases h
        exact z_vret dX11_shiftBy_121 rfl
      · replace h := oF hc7 h
        refine z_aload_n dX11_shiftBy_67 2 rfl ?_
        refine y_getR (M := mX11_shiftBy) (r := 1) dX11_shiftBy_68 zk_0 flRX11_12 fr_9_0.1 (fr_9_0.2 _) ?_
        refine y_getR (M := mX11_shiftBy) (r := 2) dX11_shiftBy_71 zk_1 flRX11_62 fr_5_0.1 (fr_5_0.2 _) ?_
        refine z_iload_n dX11_shiftBy_74 0 rfl ?_
        refine z_bipush (M := mX11_shiftBy) (v := 64) dX11_shiftBy_75 rfl ?_
        refine z_imul dX11_shiftBy_77 ?_
        obtain ⟨v8, he8, h⟩ := obind h
        refine y_Vi (M := mX11_shiftBy) (Y := mX2_pass) (d2 := d - 1) (As := [.int (((1 : Int32) + (x1 - x1 / (5 : Int32) * (5 : Int32))) * (64 : Int32))]) (st := []) dX11_shiftBy_78 mlRX11_149 cv_X2_pass zk_2 (ct_Pt_pass (dle (Nat.le_of_ble_eq_true rfl) hd0) zk_2 he8) (dps (Nat.le_of_ble_eq_true rfl) hd0) rfl rfl (Nat.le_of_ble_eq_true rfl) ?_
        refine z_pop dX11_shiftBy_81 rfl ?_
        refine z_goto 121 dX11_shiftBy_82 rfl ?_
        cases h
        exact z_vret dX11_shiftBy_121 rfl
  · replace h := oFn hc1 h
    refine z_aload_n dX11_shiftBy_10 1 rfl ?_
    refine y_getR (M := mX11_shiftBy) (r := 1) dX11_shiftBy_11 zk_0 flRX11_12 fr_9_0.1 (fr_9_0.2 _) ?_
    refine y_getR (M := mX11_shiftBy) (r := 2) dX11_shiftBy_14 zk_1 flRX11_62 fr_5_0.1 (fr_5_0.2 _) ?_
    obtain ⟨v9, he9, h⟩ := obind h
    refine y_Vi (M := mX11_shiftBy) (Y := mX2_sparksToBurn) (d2 := d - 1) (As := []) (st := []) dX11_shiftBy_17 mlRX11_145 cv_X2_sparksToBurn zk_2 (ct_Pt_sparksToBurn (dle (Nat.le_of_ble_eq_true rfl) hd0) zk_2 he9) (dps (Nat.le_of_ble_eq_true rfl) hd0) rfl rfl (Nat.le_of_ble_eq_true rfl) ?_
    refine z_istore_n (M := mX11_shiftBy) (lv2 := [(3, .int v9), (2, .int (x1 - x1 / (7 : Int32) * (7 : Int32))), (0, .ref 0), (1, .int x1)]) dX11_shiftBy_20 (Nat.le_of_ble_eq_true rfl) rfl ?_
    refine z_iload_n dX11_shiftBy_21 0 rfl ?_
    refine z_iconst (M := mX11_shiftBy) (v := -1) dX11_shiftBy_22 rfl ?_
    refine z_icmp_eq 38 dX11_shiftBy_23 rfl (fun hc10 => ?_) (fun hc10 => ?_)
    · replace h := oT hc10 h
      refine z_goto 121 dX11_shiftBy_38 rfl ?_
      cases h
      exact z_vret dX11_shiftBy_121 rfl
    · replace h := oF hc10 h
      refine z_aload_n dX11_shiftBy_26 2 rfl ?_
      refine y_getR (M := mX11_shiftBy) (r := 1) dX11_shiftBy_27 zk_0 flRX11_12 fr_9_0.1 (fr_9_0.2 _) ?_
      refine y_getR (M := mX11_shiftBy) (r := 2) dX11_shiftBy_30 zk_1 flRX11_62 fr_5_0.1 (fr_5_0.2 _) ?_
      refine z_iload_n dX11_shiftBy_33 0 rfl ?_
      obtain ⟨v11, he11, h⟩ := obind h
      refine y_Vi (M := mX11_shiftBy) (Y := mX2_pass) (d2 := d - 1) (As := [.int v9]) (st := []) dX11_shiftBy_34 mlRX11_149 cv_X2_pass zk_2 (ct_Pt_pass (dle (Nat.le_of_ble_eq_true rfl) hd0) zk_2 he11) (dps (Nat.le_of_ble_eq_true rfl) hd0) rfl rfl (Nat.le_of_ble_eq_true rfl) ?_
      refine z_pop dX11_shiftBy_37 rfl ?_
      refine z_goto 121 dX11_shiftBy_38 rfl ?_
      cases h
      exact z_vret dX11_shiftBy_121 rfl
theorem ct_Fm_shiftBy {g : GG} {d : Nat} {x1 : Int32} {ν : Nm} {r : Nm} (hd0 : 7 ≤ d)  (h : Fm_shiftBy x1 ν = some r) : Ct g d mX11_shiftBy [.ref 0, .int x1] (zem ν) (none, zem r) := y_entry in_X11_shiftBy (Nat.le_of_ble_eq_true rfl) rfl (t_Fm_shiftBy hd0 x1 ν r h)
-- FuseMinutes.shifts(II)I
theorem dX11_shifts_0 : decode cX11_shifts 0 = .ok (.iload_n 1, 1) := by decide +kernel
theorem dX11_shifts_1 : decode cX11_shifts 1 = .ok (.iconst 0, 1) := by decide +kernel
theorem dX11_shifts_2 : decode cX11_shifts 2 = .ok (.sipush 9999, 3) := by decide +kernel
theorem dX11_shifts_5 : decode cX11_shifts 5 = .ok (.invokestatic 72, 3) := by decide +kernel
theorem dX11_shifts_8 : decode cX11_shifts 8 = .ok (.ifCond .eq 13, 3) := by decide +kernel
theorem dX11_shifts_11 : decode cX11_shifts 11 = .ok (.iload_n 2, 1) := by decide +kernel
theorem dX11_shifts_12 : decode cX11_shifts 12 = .ok (.iconst 1, 1) := by decide +kernel
theorem dX11_shifts_13 : decode cX11_shifts 13 = .ok (.bipush 40, 2) := by decide +kernel
theorem dX11_shifts_15 : decode cX11_shifts 15 = .ok (.invokestatic 72, 3) := by decide +kernel
theorem dX11_shifts_18 : decode cX11_shifts 18 = .ok (.ifCond .ne 5, 3) := by decide +kernel
theorem dX11_shifts_21 : decode cX11_shifts 21 = .ok (.iconst (-1), 1) := by decide +kernel
theorem dX11_shifts_22 : decode cX11_shifts 22 = .ok (.ireturn, 1) := by decide +kernel
theorem dX11_shifts_23 : decode cX11_shifts 23 = .ok (.aload_n 0, 1) := by decide +kernel
theorem dX11_shifts_24 : decode cX11_shifts 24 = .ok (.getfield 12, 3) := by decide +kernel
theorem dX11_shifts_27 : decode cX11_shifts 27 = .ok (.getfield 118, 3) := by decide +kernel
theorem dX11_shifts_30 : decode cX11_shifts 30 = .ok (.aload_n 0, 1) := by decide +kernel
theorem dX11_shifts_31 : decode cX11_shifts 31 = .ok (.getfield 12, 3) := by decide +kernel
theorem dX11_shifts_34 : decode cX11_shifts 34 = .ok (.getfield 62, 3) := by decide +kernel
theorem dX11_shifts_37 : decode cX11_shifts 37 = .ok (.invokevirtual 122, 3) := by decide +kernel
theorem dX11_shifts_40 : decode cX11_shifts 40 = .ok (.aload_n 0, 1) := by decide +kernel
theorem dX11_shifts_41 : decode cX11_shifts 41 = .ok (.getfield 12, 3) := by decide +kernel
theorem dX11_shifts_44 : decode cX11_shifts 44 = .ok (.getfield 62, 3) := by decide +kernel
theorem dX11_shifts_47 : decode cX11_shifts 47 = .ok (.iload_n 1, 1) := by decide +kernel
theorem dX11_shifts_48 : decode cX11_shifts 48 = .ok (.iconst 2, 1) := by decide +kernel
theorem dX11_shifts_49 : decode cX11_shifts 49 = .ok (.imul, 1) := by decide +kernel
theorem dX11_shifts_50 : decode cX11_shifts 50 = .ok (.sipush 311, 3) := by decide +kernel
theorem dX11_shifts_53 : decode cX11_shifts 53 = .ok (.iadd, 1) := by decide +kernel
theorem dX11_shifts_54 : decode cX11_shifts 54 = .ok (.putfield 171, 3) := by decide +kernel
theorem dX11_shifts_57 : decode cX11_shifts 57 = .ok (.iconst 0, 1) := by decide +kernel
theorem dX11_shifts_58 : decode cX11_shifts 58 = .ok (.istore_n 3, 1) := by decide +kernel
theorem dX11_shifts_59 : decode cX11_shifts 59 = .ok (.iload_n 3, 1) := by decide +kernel
theorem dX11_shifts_60 : decode cX11_shifts 60 = .ok (.iload_n 2, 1) := by decide +kernel
theorem dX11_shifts_61 : decode cX11_shifts 61 = .ok (.if_icmp .ge 23, 3) := by decide +kernel
theorem dX11_shifts_64 : decode cX11_shifts 64 = .ok (.aload_n 0, 1) := by decide +kernel
theorem dX11_shifts_65 : decode cX11_shifts 65 = .ok (.aload_n 0, 1) := by decide +kernel
theorem dX11_shifts_66 : decode cX11_shifts 66 = .ok (.getfield 12, 3) := by decide +kernel
theorem dX11_shifts_69 : decode cX11_shifts 69 = .ok (.getfield 62, 3) := by decide +kernel
theorem dX11_shifts_72 : decode cX11_shifts 72 = .ok (.invokevirtual 174, 3) := by decide +kernel
theorem dX11_shifts_75 : decode cX11_shifts 75 = .ok (.invokevirtual 177, 3) := by decide +kernel
theorem dX11_shifts_78 : decode cX11_shifts 78 = .ok (.iinc 3 1, 3) := by decide +kernel
theorem dX11_shifts_81 : decode cX11_shifts 81 = .ok (.goto (-22), 3) := by decide +kernel
theorem dX11_shifts_84 : decode cX11_shifts 84 = .ok (.aload_n 0, 1) := by decide +kernel
theorem dX11_shifts_85 : decode cX11_shifts 85 = .ok (.getfield 12, 3) := by decide +kernel
theorem dX11_shifts_88 : decode cX11_shifts 88 = .ok (.getfield 62, 3) := by decide +kernel
theorem dX11_shifts_91 : decode cX11_shifts 91 = .ok (.getfield 180, 3) := by decide +kernel
theorem dX11_shifts_94 : decode cX11_shifts 94 = .ok (.ireturn, 1) := by decide +kernel
def Fm_shifts_59 : Nat → Int32 → Int32 → Nm → Option (Int32 × Nm)
  | 0, _, _, _ => none
  | f + 1, x2, x3, ν =>
    (if x2 ≤ x3 then
      some ((gi ν 2 1), ν)
    else
      (Pt_draw 2 ν).bind fun v2 =>
      (Fm_shiftBy v2.1 v2.2).bind fun v3 =>
      (Fm_shifts_59 f) x2 (x3 + (1 : Int32)) v3)
set_option maxRecDepth 100000 in
set_option maxHeartbeats 4000000 in
theorem t_Fm_shifts_59 {g : GG} {d : Nat} (hd0 : 8 ≤ d) : ∀ (f : Nat), ∀ (x2 : Int32) (x3 : Int32) (ν : Nm) (r : (Int32 × Nm)), Fm_shifts_59 f x2 x3 ν = some r → Z g d (0, 0) mX11_shifts 333 0 0 59 [(0, .ref 0), (2, .int x2), (3, .int x3)] [] (zem ν) (zF g (some (.int r.1), zem r.2)) := by
  intro f
  induction f with
  | zero =>
    intro x2 x3 ν r h
    cases h
  | succ f ih =>
    intro x2 x3 ν r h
    rw [Fm_shifts_59] at h
    refine z_iload_n dX11_shifts_59 2 rfl ?_
    refine z_iload_n dX11_shifts_60 1 rfl ?_
    refine z_icmp_ge 84 dX11_shifts_61 rfl (fun hc1 => ?_) (fun hc1 => ?_)
    · replace h := oT hc1 h
      refine z_aload_n dX11_shifts_84 0 rfl ?_
      refine y_getR (M := mX11_shifts) (r := 1) dX11_shifts_85 zk_0 flRX11_12 fr_9_0.1 (fr_9_0.2 _) ?_
      refine y_getR (M := mX11_shifts) (r := 2) dX11_shifts_88 zk_1 flRX11_62 fr_5_0.1 (fr_5_0.2 _) ?_
      refine y_getI dX11_shifts_91 zk_2 flRX11_180 ?_
      cases h
      exact z_iret dX11_shifts_94 rfl
    · replace h := oF hc1 h
      refine z_aload_n dX11_shifts_64 0 rfl ?_
      refine z_aload_n dX11_shifts_65 0 rfl ?_
      refine y_getR (M := mX11_shifts) (r := 1) dX11_shifts_66 zk_0 flRX11_12 fr_9_0.1 (fr_9_0.2 _) ?_
      refine y_getR (M := mX11_shifts) (r := 2) dX11_shifts_69 zk_1 flRX11_62 fr_5_0.1 (fr_5_0.2 _) ?_
      obtain ⟨v2, he2, h⟩ := obind h
      refine y_Vi (M := mX11_shifts) (Y := mX2_draw) (d2 := d - 1) (As := []) (st := [.ref 0]) dX11_shifts_72 mlRX11_174 cv_X2_draw zk_2 (ct_Pt_draw (dle (Nat.le_of_ble_eq_true rfl) hd0) zk_2 he2) (dps (Nat.le_of_ble_eq_true rfl) hd0) rfl rfl (Nat.le_of_ble_eq_true rfl) ?_
      obtain ⟨v3, he3, h⟩ := obind h
      refine y_Vv (M := mX11_shifts) (Y := mX11_shiftBy) (d2 := d - 1) (As := [.int v2.1]) (st := []) dX11_shifts_75 mlRX11_177 cv_X11_shiftBy zk_0 (ct_Fm_shiftBy (dle (Nat.le_of_ble_eq_true rfl) hd0) he3) (dps (Nat.le_of_ble_eq_true rfl) hd0) rfl rfl (Nat.le_of_ble_eq_true rfl) ?_
      refine z_iinc (M := mX11_shifts) (v := (x3 + (1 : Int32))) (lv2 := [(3, .int (x3 + (1 : Int32))), (0, .ref 0), (2, .int x2)]) dX11_shifts_78 2 rfl rfl (Nat.le_of_ble_eq_true rfl) rfl ?_
      refine z_goto 59 dX11_shifts_81 rfl ?_
      refine z_lv (lv2 := [(0, .ref 0), (2, .int x2), (3, .int (x3 + (1 : Int32)))]) [1, 2, 0] rfl ?_
      exact ih x2 (x3 + (1 : Int32)) v3 _ h
def Fm_shifts (x1 : Int32) (x2 : Int32) (ν : Nm) : Option (Int32 × Nm) :=
  (Fm_within x1 (0 : Int32) (9999 : Int32)).bind fun v1 =>
  (if (b2i v1) = 0 then
    some ((-1 : Int32), ν)
  else
    (Fm_within x2 (1 : Int32) (40 : Int32)).bind fun v3 =>
    (if ¬ (b2i v3) = 0 then
      (St_push 6 2 ν).bind fun v5 =>
      Fm_shifts_59 FU x2 (0 : Int32) (si v5 2 2 ((x1 * (2 : Int32)) + (311 : Int32)))
    else
      some ((-1 : Int32), ν)))
set_option maxRecDepth 100000 in
set_option maxHeartbeats 4000000 in
theorem t_Fm_shifts {g : GG} {d : Nat} (hd0 : 8 ≤ d) : ∀ (x1 : Int32) (x2 : Int32) (ν : Nm) (r : (Int32 × Nm)), Fm_shifts x1 x2 ν = some r → Z g d (0, 0) mX11_shifts 333 0 0 0 [(0, .ref 0), (1, .int x1), (2, .int x2)] [] (zem ν) (zF g (some (.int r.1), zem r.2)) := by
  intro x1 x2 ν r h
  unfold Fm_shifts at h
  refine z_iload_n dX11_shifts_0 1 rfl ?_
  refine z_iconst (M := mX11_shifts) (v := 0) dX11_shifts_1 rfl ?_
  refine z_sipush (M := mX11_shifts) (v := 9999) dX11_shifts_2 rfl ?_
  obtain ⟨v1, he1, h⟩ := obind h
  refine y_Si (M := mX11_shifts) (Y := mX11_within) (d2 := d - 1) (As := [.int x1, .int (0 : Int32), .int (9999 : Int32)]) (st := []) dX11_shifts_5 mlRX11_72 cv_X11_within (ct_Fm_within (dle (Nat.le_of_ble_eq_true rfl) hd0) he1) (dps (Nat.le_of_ble_eq_true rfl) hd0) rfl rfl (Nat.le_of_ble_eq_true rfl) ?_
  refine z_if_eq 21 dX11_shifts_8 rfl (fun hc2 => ?_) (fun hc2 => ?_)
  · replace h := oT hc2 h
    refine z_iconst (M := mX11_shifts) (v := -1) dX11_shifts_21 rfl ?_
    cases h
    exact z_iret dX11_shifts_22 rfl
  · replace h := oF hc2 h
    refine z_iload_n dX11_shifts_11 2 rfl ?_
    refine z_iconst (M := mX11_shifts) (v := 1) dX11_shifts_12 rfl ?_
    refine z_bipush (M := mX11_shifts) (v := 40) dX11_shifts_13 rfl ?_
    obtain ⟨v3, he3, h⟩ := obind h
    refine y_Si (M := mX11_shifts) (Y := mX11_within) (d2 := d - 1) (As := [.int x2, .int (1 : Int32), .int (40 : Int32)]) (st := []) dX11_shifts_15 mlRX11_72 cv_X11_within (ct_Fm_within (dle (Nat.le_of_ble_eq_true rfl) hd0) he3) (dps (Nat.le_of_ble_eq_true rfl) hd0) rfl rfl (Nat.le_of_ble_eq_true rfl) ?_
    refine z_if_ne 23 dX11_shifts_18 rfl (fun hc4 => ?_) (fun hc4 => ?_)
    · replace h := oT hc4 h
      refine z_aload_n dX11_shifts_23 0 rfl ?_
      refine y_getR (M := mX11_shifts) (r := 1) dX11_shifts_24 zk_0 flRX11_12 fr_9_0.1 (fr_9_0.2 _) ?_
      refine y_getR (M := mX11_shifts) (r := 6) dX11_shifts_27 zk_1 flRX11_118 fr_5_1.1 (fr_5_1.2 _) ?_
      refine z_aload_n dX11_shifts_30 0 rfl ?_
      refine y_getR (M := mX11_shifts) (r := 1) dX11_shifts_31 zk_0 flRX11_12 fr_9_0.1 (fr_9_0.2 _) ?_
      refine y_getR (M := mX11_shifts) (r := 2) dX11_shifts_34 zk_1 flRX11_62 fr_5_0.1 (fr_5_0.2 _) ?_
      obtain ⟨v5, he5, h⟩ := obind h
      refine y_Vv (M := mX11_shifts) (Y := mX5_push) (d2 := d - 1) (As := [.ref 2]) (st := []) dX11_shifts_37 mlRX11_122 cv_X5_push zk_6 (ct_St_push (dle (Nat.le_of_ble_eq_true rfl) hd0) zk_6 zk_2 he5) (dps (Nat.le_of_ble_eq_true rfl) hd0) rfl rfl (Nat.le_of_ble_eq_true rfl) ?_
      refine z_aload_n dX11_shifts_40 0 rfl ?_
      refine y_getR (M := mX11_shifts) (r := 1) dX11_shifts_41 zk_0 flRX11_12 fr_9_0.1 (fr_9_0.2 _) ?_
      refine y_getR (M := mX11_shifts) (r := 2) dX11_shifts_44 zk_1 flRX11_62 fr_5_0.1 (fr_5_0.2 _) ?_
      refine z_iload_n dX11_shifts_47 1 rfl ?_
      refine z_iconst (M := mX11_shifts) (v := 2) dX11_shifts_48 rfl ?_
      refine z_imul dX11_shifts_49 ?_
      refine z_sipush (M := mX11_shifts) (v := 311) dX11_shifts_50 rfl ?_
      refine z_iadd dX11_shifts_53 ?_
      refine y_putI dX11_shifts_54 zk_2 flRX11_171 ⟨rfl, rfl⟩ ?_
      refine z_iconst (M := mX11_shifts) (v := 0) dX11_shifts_57 rfl ?_
      refine z_istore_n (M := mX11_shifts) (lv2 := [(3, .int (0 : Int32)), (0, .ref 0), (1, .int x1), (2, .int x2)]) dX11_shifts_58 (Nat.le_of_ble_eq_true rfl) rfl ?_
      refine z_lv (lv2 := [(0, .ref 0), (2, .int x2), (3, .int (0 : Int32))]) [1, 3, 0] rfl ?_
      exact t_Fm_shifts_59 hd0 FU x2 (0 : Int32) (si v5 2 2 ((x1 * (2 : Int32)) + (311 : Int32))) _ h
    · replace h := oFn hc4 h
      refine z_iconst (M := mX11_shifts) (v := -1) dX11_shifts_21 rfl ?_
      cases h
      exact z_iret dX11_shifts_22 rfl
theorem ct_Fm_shifts {g : GG} {d : Nat} {x1 : Int32} {x2 : Int32} {ν : Nm} {r : (Int32 × Nm)} (hd0 : 8 ≤ d)  (h : Fm_shifts x1 x2 ν = some r) : Ct g d mX11_shifts [.ref 0, .int x1, .int x2] (zem ν) (some (.int r.1), zem r.2) := y_entry in_X11_shifts (Nat.le_of_ble_eq_true rfl) rfl (t_Fm_shifts hd0 x1 x2 ν r h)
-- FuseMinutes.undo()I
theorem dX11_undo_0 : decode cX11_undo 0 = .ok (.aload_n 0, 1) := by decide +kernel
theorem dX11_undo_1 : decode cX11_undo 1 = .ok (.getfield 12, 3) := by decide +kernel
theorem dX11_undo_4 : decode cX11_undo 4 = .ok (.getfield 62, 3) := by decide +kernel
theorem dX11_undo_7 : decode cX11_undo 7 = .ok (.getfield 66, 3) := by decide +kernel
theorem dX11_undo_10 : decode cX11_undo 10 = .ok (.istore_n 1, 1) := by decide +kernel
theorem dX11_undo_11 : decode cX11_undo 11 = .ok (.aload_n 0, 1) := by decide +kernel
theorem dX11_undo_12 : decode cX11_undo 12 = .ok (.getfield 12, 3) := by decide +kernel
theorem dX11_undo_15 : decode cX11_undo 15 = .ok (.getfield 118, 3) := by decide +kernel
theorem dX11_undo_18 : decode cX11_undo 18 = .ok (.aload_n 0, 1) := by decide +kernel
theorem dX11_undo_19 : decode cX11_undo 19 = .ok (.getfield 12, 3) := by decide +kernel
theorem dX11_undo_22 : decode cX11_undo 22 = .ok (.getfield 62, 3) := by decide +kernel
theorem dX11_undo_25 : decode cX11_undo 25 = .ok (.invokevirtual 183, 3) := by decide +kernel
theorem dX11_undo_28 : decode cX11_undo 28 = .ok (.ifCond .ne 5, 3) := by decide +kernel
theorem dX11_undo_31 : decode cX11_undo 31 = .ok (.iconst (-1), 1) := by decide +kernel
theorem dX11_undo_32 : decode cX11_undo 32 = .ok (.ireturn, 1) := by decide +kernel
theorem dX11_undo_33 : decode cX11_undo 33 = .ok (.aload_n 0, 1) := by decide +kernel
theorem dX11_undo_34 : decode cX11_undo 34 = .ok (.getfield 12, 3) := by decide +kernel
theorem dX11_undo_37 : decode cX11_undo 37 = .ok (.getfield 62, 3) := by decide +kernel
theorem dX11_undo_40 : decode cX11_undo 40 = .ok (.getfield 66, 3) := by decide +kernel
theorem dX11_undo_43 : decode cX11_undo 43 = .ok (.istore_n 2, 1) := by decide +kernel
theorem dX11_undo_44 : decode cX11_undo 44 = .ok (.iload_n 2, 1) := by decide +kernel
theorem dX11_undo_45 : decode cX11_undo 45 = .ok (.iload_n 1, 1) := by decide +kernel
theorem dX11_undo_46 : decode cX11_undo 46 = .ok (.if_icmp .ge 33, 3) := by decide +kernel
theorem dX11_undo_49 : decode cX11_undo 49 = .ok (.iload_n 2, 1) := by decide +kernel
theorem dX11_undo_50 : decode cX11_undo 50 = .ok (.iconst 4, 1) := by decide +kernel
theorem dX11_undo_51 : decode cX11_undo 51 = .ok (.if_icmp .ge 28, 3) := by decide +kernel
theorem dX11_undo_54 : decode cX11_undo 54 = .ok (.aload_n 0, 1) := by decide +kernel
theorem dX11_undo_55 : decode cX11_undo 55 = .ok (.getfield 12, 3) := by decide +kernel
theorem dX11_undo_58 : decode cX11_undo 58 = .ok (.getfield 62, 3) := by decide +kernel
theorem dX11_undo_61 : decode cX11_undo 61 = .ok (.aload_n 0, 1) := by decide +kernel
theorem dX11_undo_62 : decode cX11_undo 62 = .ok (.getfield 12, 3) := by decide +kernel
theorem dX11_undo_65 : decode cX11_undo 65 = .ok (.getfield 43, 3) := by decide +kernel
theorem dX11_undo_68 : decode cX11_undo 68 = .ok (.iload_n 2, 1) := by decide +kernel
theorem dX11_undo_69 : decode cX11_undo 69 = .ok (.iaload, 1) := by decide +kernel
theorem dX11_undo_70 : decode cX11_undo 70 = .ok (.invokevirtual 79, 3) := by decide +kernel
theorem dX11_undo_73 : decode cX11_undo 73 = .ok (.iinc 2 1, 3) := by decide +kernel
theorem dX11_undo_76 : decode cX11_undo 76 = .ok (.goto (-32), 3) := by decide +kernel
theorem dX11_undo_79 : decode cX11_undo 79 = .ok (.aload_n 0, 1) := by decide +kernel
theorem dX11_undo_80 : decode cX11_undo 80 = .ok (.getfield 12, 3) := by decide +kernel
theorem dX11_undo_83 : decode cX11_undo 83 = .ok (.getfield 118, 3) := by decide +kernel
theorem dX11_undo_86 : decode cX11_undo 86 = .ok (.getfield 187, 3) := by decide +kernel
theorem dX11_undo_89 : decode cX11_undo 89 = .ok (.ireturn, 1) := by decide +kernel
def Fm_undo_79 (ν : Nm) : Option (Int32 × Nm) :=
  some ((gi ν 6 2), ν)
set_option maxRecDepth 100000 in
set_option maxHeartbeats 4000000 in
theorem t_Fm_undo_79 {g : GG} {d : Nat} (hd0 : 3 ≤ d) : ∀ (ν : Nm) (r : (Int32 × Nm)), Fm_undo_79 ν = some r → Z g d (0, 0) mX11_undo 333 0 0 79 [(0, .ref 0)] [] (zem ν) (zF g (some (.int r.1), zem r.2)) := by
  intro ν r h
  unfold Fm_undo_79 at h
  refine z_aload_n dX11_undo_79 0 rfl ?_
  refine y_getR (M := mX11_undo) (r := 1) dX11_undo_80 zk_0 flRX11_12 fr_9_0.1 (fr_9_0.2 _) ?_
  refine y_getR (M := mX11_undo) (r := 6) dX11_undo_83 zk_1 flRX11_118 fr_5_1.1 (fr_5_1.2 _) ?_
  refine y_getI dX11_undo_86 zk_6 flRX11_187 ?_
  cases h
  exact z_iret dX11_undo_89 rfl
def Fm_undo_44 : Nat → Int32 → Int32 → Nm → Option (Int32 × Nm)
  | 0, _, _, _ => none
  | f + 1, x1, x2, ν =>
    (if x1 ≤ x2 then
      Fm_undo_79 ν
    else
      (if (4 : Int32) ≤ x2 then
        Fm_undo_79 ν
      else
        if inb x2 4 then
        (Pt_lay 2 (gi ν 128 x2.toNatClampNeg) ν).bind fun v4 =>
        (Fm_undo_44 f) x1 (x2 + (1 : Int32)) v4
        else none))
set_option maxRecDepth 100000 in
set_option maxHeartbeats 4000000 in
theorem t_Fm_undo_44 {g : GG} {d : Nat} (hd0 : 3 ≤ d) : ∀ (f : Nat), ∀ (x1 : Int32) (x2 : Int32) (ν : Nm) (r : (Int32 × Nm)), Fm_undo_44 f x1 x2 ν = some r → Z g d (0, 0) mX11_undo 333 0 0 44 [(0, .ref 0), (1, .int x1), (2, .int x2)] [] (zem ν) (zF g (some (.int r.1), zem r.2)) := by
  intro f
  induction f with
  | zero =>
    intro x1 x2 ν r h
    cases h
  | succ f ih =>
    intro x1 x2 ν r h
    rw [Fm_undo_44] at h
    refine z_iload_n dX11_undo_44 2 rfl ?_
    refine z_iload_n dX11_undo_45 1 rfl ?_
    refine z_icmp_ge 79 dX11_undo_46 rfl (fun hc1 => ?_) (fun hc1 => ?_)
    · replace h := oT hc1 h
      refine z_lv (lv2 := [(0, .ref 0)]) [0] rfl ?_
      exact t_Fm_undo_79 hd0  ν _ h
    · replace h := oF hc1 h
      refine z_iload_n dX11_undo_49 2 rfl ?_
      refine z_iconst (M := mX11_undo) (v := 4) dX11_undo_50 rfl ?_
      refine z_icmp_ge 79 dX11_undo_51 rfl (fun hc2 => ?_) (fun hc2 => ?_)
      · replace h := oT hc2 h
        refine z_lv (lv2 := [(0, .ref 0)]) [0] rfl ?_
        exact t_Fm_undo_79 hd0  ν _ h
      · replace h := oF hc2 h
        refine z_aload_n dX11_undo_54 0 rfl ?_
        refine y_getR (M := mX11_undo) (r := 1) dX11_undo_55 zk_0 flRX11_12 fr_9_0.1 (fr_9_0.2 _) ?_
        refine y_getR (M := mX11_undo) (r := 2) dX11_undo_58 zk_1 flRX11_62 fr_5_0.1 (fr_5_0.2 _) ?_
        refine z_aload_n dX11_undo_61 0 rfl ?_
        refine y_getR (M := mX11_undo) (r := 1) dX11_undo_62 zk_0 flRX11_12 fr_9_0.1 (fr_9_0.2 _) ?_
        refine y_getR (M := mX11_undo) (r := 128) dX11_undo_65 zk_1 flRX11_43 fr_5_2.1 (fr_5_2.2 _) ?_
        refine z_iload_n dX11_undo_68 2 rfl ?_
        obtain ⟨hi3, h⟩ := oif h
        refine y_iald (M := mX11_undo) (jj := x2.toNatClampNeg) dX11_undo_69 zk_128 hi3 rfl ?_
        obtain ⟨v4, he4, h⟩ := obind h
        refine y_Vv (M := mX11_undo) (Y := mX2_lay) (d2 := d - 1) (As := [.int (gi ν 128 x2.toNatClampNeg)]) (st := []) dX11_undo_70 mlRX11_79 cv_X2_lay zk_2 (ct_Pt_lay (dle (Nat.le_of_ble_eq_true rfl) hd0) zk_2 he4) (dps (Nat.le_of_ble_eq_true rfl) hd0) rfl rfl (Nat.le_of_ble_eq_true rfl) ?_
        refine z_iinc (M := mX11_undo) (v := (x2 + (1 : Int32))) (lv2 := [(2, .int (x2 + (1 : Int32))), (0, .ref 0), (1, .int x1)]) dX11_undo_73 2 rfl rfl (Nat.le_of_ble_eq_true rfl) rfl ?_
        refine z_goto 44 dX11_undo_76 rfl ?_
        refine z_lv (lv2 := [(0, .ref 0), (1, .int x1), (2, .int (x2 + (1 : Int32)))]) [1, 2, 0] rfl ?_
        exact ih x1 (x2 + (1 : Int32)) v4 _ h
def Fm_undo (ν : Nm) : Option (Int32 × Nm) :=
  (St_pop 6 2 ν).bind fun v1 =>
  (if ¬ (b2i v1.1) = 0 then
    Fm_undo_44 FU (gi ν 2 0) (gi v1.2 2 0) v1.2
  else
    some ((-1 : Int32), v1.2))
set_option maxRecDepth 100000 in
set_option maxHeartbeats 4000000 in
theorem t_Fm_undo {g : GG} {d : Nat} (hd0 : 3 ≤ d) : ∀ (ν : Nm) (r : (Int32 × Nm)), Fm_undo ν = some r → Z g d (0, 0) mX11_undo 333 0 0 0 [(0, .ref 0)] [] (zem ν) (zF g (some (.int r.1), zem r.2)) := by
  intro ν r h
  unfold Fm_undo at h
  refine z_aload_n dX11_undo_0 0 rfl ?_
  refine y_getR (M := mX11_undo) (r := 1) dX11_undo_1 zk_0 flRX11_12 fr_9_0.1 (fr_9_0.2 _) ?_
  refine y_getR (M := mX11_undo) (r := 2) dX11_undo_4 zk_1 flRX11_62 fr_5_0.1 (fr_5_0.2 _) ?_
  refine y_getI dX11_undo_7 zk_2 flRX11_66 ?_
  refine z_istore_n (M := mX11_undo) (lv2 := [(1, .int (gi ν 2 0)), (0, .ref 0)]) dX11_undo_10 (Nat.le_of_ble_eq_true rfl) rfl ?_
  refine z_aload_n dX11_undo_11 1 rfl ?_
  refine y_getR (M := mX11_undo) (r := 1) dX11_undo_12 zk_0 flRX11_12 fr_9_0.1 (fr_9_0.2 _) ?_
  refine y_getR (M := mX11_undo) (r := 6) dX11_undo_15 zk_1 flRX11_118 fr_5_1.1 (fr_5_1.2 _) ?_
  refine z_aload_n dX11_undo_18 1 rfl ?_
  refine y_getR (M := mX11_undo) (r := 1) dX11_undo_19 zk_0 flRX11_12 fr_9_0.1 (fr_9_0.2 _) ?_
  refine y_getR (M := mX11_undo) (r := 2) dX11_undo_22 zk_1 flRX11_62 fr_5_0.1 (fr_5_0.2 _) ?_
  obtain ⟨v1, he1, h⟩ := obind h
  refine y_Vi (M := mX11_undo) (Y := mX5_pop) (d2 := d - 1) (As := [.ref 2]) (st := []) dX11_undo_25 mlRX11_183 cv_X5_pop zk_6 (ct_St_pop (dle (Nat.le_of_ble_eq_true rfl) hd0) zk_6 zk_2 he1) (dps (Nat.le_of_ble_eq_true rfl) hd0) rfl rfl (Nat.le_of_ble_eq_true rfl) ?_
  refine z_if_ne 33 dX11_undo_28 rfl (fun hc2 => ?_) (fun hc2 => ?_)
  · replace h := oT hc2 h
    refine z_aload_n dX11_undo_33 1 rfl ?_
    refine y_getR (M := mX11_undo) (r := 1) dX11_undo_34 zk_0 flRX11_12 fr_9_0.1 (fr_9_0.2 _) ?_
    refine y_getR (M := mX11_undo) (r := 2) dX11_undo_37 zk_1 flRX11_62 fr_5_0.1 (fr_5_0.2 _) ?_
    refine y_getI dX11_undo_40 zk_2 flRX11_66 ?_
    refine z_istore_n (M := mX11_undo) (lv2 := [(2, .int (gi v1.2 2 0)), (1, .int (gi ν 2 0)), (0, .ref 0)]) dX11_undo_43 (Nat.le_of_ble_eq_true rfl) rfl ?_
    refine z_lv (lv2 := [(0, .ref 0), (1, .int (gi ν 2 0)), (2, .int (gi v1.2 2 0))]) [2, 1, 0] rfl ?_
    exact t_Fm_undo_44 hd0 FU (gi ν 2 0) (gi v1.2 2 0) v1.2 _ h
  · replace h := oFn hc2 h
    refine z_iconst (M := mX11_undo) (v := -1) dX11_undo_31 rfl ?_
    cases h
    exact z_iret dX11_undo_32 rfl
theorem ct_Fm_undo {g : GG} {d : Nat} {ν : Nm} {r : (Int32 × Nm)} (hd0 : 3 ≤ d)  (h : Fm_undo ν = some r) : Ct g d mX11_undo [.ref 0] (zem ν) (some (.int r.1), zem r.2) := y_entry in_X11_undo (Nat.le_of_ble_eq_true rfl) rfl (t_Fm_undo hd0 ν r h)
-- FuseMinutes.of(II)I
theorem dX11_of_0 : decode cX11_of 0 = .ok (.aload_n 0, 1) := by decide +kernel
theorem dX11_of_1 : decode cX11_of 1 = .ok (.getfield 12, 3) := by decide +kernel
theorem dX11_of_4 : decode cX11_of 4 = .ok (.getfield 62, 3) := by decide +kernel
theorem dX11_of_7 : decode cX11_of 7 = .ok (.iload_n 1, 1) := by decide +kernel
theorem dX11_of_8 : decode cX11_of 8 = .ok (.invokevirtual 190, 3) := by decide +kernel
theorem dX11_of_11 : decode cX11_of 11 = .ok (.ifCond .ne 5, 3) := by decide +kernel
theorem dX11_of_14 : decode cX11_of 14 = .ok (.iconst (-1), 1) := by decide +kernel
theorem dX11_of_15 : decode cX11_of 15 = .ok (.ireturn, 1) := by decide +kernel
theorem dX11_of_16 : decode cX11_of 16 = .ok (.iload_n 2, 1) := by decide +kernel
theorem dX11_of_17 : decode cX11_of 17 = .ok (.tableswitch 93 0 4 #[35, 45, 55, 68, 81], 35) := by decide +kernel
theorem dX11_of_52 : decode cX11_of 52 = .ok (.aload_n 0, 1) := by decide +kernel
theorem dX11_of_53 : decode cX11_of 53 = .ok (.getfield 12, 3) := by decide +kernel
theorem dX11_of_56 : decode cX11_of 56 = .ok (.getfield 43, 3) := by decide +kernel
theorem dX11_of_59 : decode cX11_of 59 = .ok (.iload_n 1, 1) := by decide +kernel
theorem dX11_of_60 : decode cX11_of 60 = .ok (.iaload, 1) := by decide +kernel
theorem dX11_of_61 : decode cX11_of 61 = .ok (.ireturn, 1) := by decide +kernel
theorem dX11_of_62 : decode cX11_of 62 = .ok (.aload_n 0, 1) := by decide +kernel
theorem dX11_of_63 : decode cX11_of 63 = .ok (.getfield 12, 3) := by decide +kernel
theorem dX11_of_66 : decode cX11_of 66 = .ok (.getfield 76, 3) := by decide +kernel
theorem dX11_of_69 : decode cX11_of 69 = .ok (.iload_n 1, 1) := by decide +kernel
theorem dX11_of_70 : decode cX11_of 70 = .ok (.iaload, 1) := by decide +kernel
theorem dX11_of_71 : decode cX11_of 71 = .ok (.ireturn, 1) := by decide +kernel
theorem dX11_of_72 : decode cX11_of 72 = .ok (.aload_n 0, 1) := by decide +kernel
theorem dX11_of_73 : decode cX11_of 73 = .ok (.getfield 12, 3) := by decide +kernel
theorem dX11_of_76 : decode cX11_of 76 = .ok (.getfield 62, 3) := by decide +kernel
theorem dX11_of_79 : decode cX11_of 79 = .ok (.getfield 193, 3) := by decide +kernel
theorem dX11_of_82 : decode cX11_of 82 = .ok (.iload_n 1, 1) := by decide +kernel
theorem dX11_of_83 : decode cX11_of 83 = .ok (.iaload, 1) := by decide +kernel
theorem dX11_of_84 : decode cX11_of 84 = .ok (.ireturn, 1) := by decide +kernel
theorem dX11_of_85 : decode cX11_of 85 = .ok (.aload_n 0, 1) := by decide +kernel
theorem dX11_of_86 : decode cX11_of 86 = .ok (.getfield 12, 3) := by decide +kernel
theorem dX11_of_89 : decode cX11_of 89 = .ok (.getfield 62, 3) := by decide +kernel
theorem dX11_of_92 : decode cX11_of 92 = .ok (.getfield 196, 3) := by decide +kernel
theorem dX11_of_95 : decode cX11_of 95 = .ok (.iload_n 1, 1) := by decide +kernel
theorem dX11_of_96 : decode cX11_of 96 = .ok (.iaload, 1) := by decide +kernel
theorem dX11_of_97 : decode cX11_of 97 = .ok (.ireturn, 1) := by decide +kernel
theorem dX11_of_98 : decode cX11_of 98 = .ok (.aload_n 0, 1) := by decide +kernel
theorem dX11_of_99 : decode cX11_of 99 = .ok (.getfield 12, 3) := by decide +kernel
theorem dX11_of_102 : decode cX11_of 102 = .ok (.getfield 199, 3) := by decide +kernel
theorem dX11_of_105 : decode cX11_of 105 = .ok (.iload_n 1, 1) := by decide +kernel
theorem dX11_of_106 : decode cX11_of 106 = .ok (.ishr, 1) := by decide +kernel
theorem dX11_of_107 : decode cX11_of 107 = .ok (.iconst 1, 1) := by decide +kernel
theorem dX11_of_108 : decode cX11_of 108 = .ok (.iand, 1) := by decide +kernel
theorem dX11_of_109 : decode cX11_of 109 = .ok (.ireturn, 1) := by decide +kernel
theorem dX11_of_110 : decode cX11_of 110 = .ok (.iconst (-1), 1) := by decide +kernel
theorem dX11_of_111 : decode cX11_of 111 = .ok (.ireturn, 1) := by decide +kernel
def Fm_of (ν : Nm) (x1 : Int32) (x2 : Int32) : Option Int32 :=
  (Pt_has ν 2 x1).bind fun v1 =>
  (if ¬ (b2i v1) = 0 then
    (if x2 = (0 : Int32) then
      if inb x1 4 then
      some (gi ν 128 x1.toNatClampNeg)
      else none
    else
    (if x2 = (1 : Int32) then
      if inb x1 4 then
      some (gi ν 129 x1.toNatClampNeg)
      else none
    else
    (if x2 = (2 : Int32) then
      if inb x1 4 then
      some (gi ν 3 x1.toNatClampNeg)
      else none
    else
    (if x2 = (3 : Int32) then
      if inb x1 4 then
      some (gi ν 4 x1.toNatClampNeg)
      else none
    else
    (if x2 = (4 : Int32) then
      some (((gi ν 1 4) >>> (x1 &&& 31)) &&& (1 : Int32))
    else
      some (-1 : Int32))))))
  else
    some (-1 : Int32))
set_option maxRecDepth 100000 in
set_option maxHeartbeats 4000000 in
theorem t_Fm_of {g : GG} {d : Nat} {ν : Nm} (hd0 : 2 ≤ d) : ∀ (x1 : Int32) (x2 : Int32) (r : Int32), Fm_of ν x1 x2 = some r → Z g d (0, 0) mX11_of 333 0 0 0 [(0, .ref 0), (1, .int x1), (2, .int x2)] [] (zem ν) (zF g (some (.int r), zem ν)) := by
  intro x1 x2 r h
  unfold Fm_of at h
  refine z_aload_n dX11_of_0 0 rfl ?_
  refine y_getR (M := mX11_of) (r := 1) dX11_of_1 zk_0 flRX11_12 fr_9_0.1 (fr_9_0.2 _) ?_
  refine y_getR (M := mX11_of) (r := 2) dX11_of_4 zk_1 flRX11_62 fr_5_0.1 (fr_5_0.2 _) ?_
  refine z_iload_n dX11_of_7 1 rfl ?_
  obtain ⟨v1, he1, h⟩ := obind h
  refine y_Vi (M := mX11_of) (Y := mX2_has) (d2 := d - 1) (As := [.int x1]) (st := []) dX11_of_8 mlRX11_190 cv_X2_has zk_2 (ct_Pt_has (dle (Nat.le_of_ble_eq_true rfl) hd0) zk_2 he1) (dps (Nat.le_of_ble_eq_true rfl) hd0) rfl rfl (Nat.le_of_ble_eq_true rfl) ?_
  refine z_if_ne 16 dX11_of_11 rfl (fun hc2 => ?_) (fun hc2 => ?_)
  · replace h := oT hc2 h
    refine z_iload_n dX11_of_16 2 rfl ?_
    by_cases hc4 : x2 = (0 : Int32)
    · replace h := oT hc4 h
      refine y_sw (0 : Int32) (0) 52 dX11_of_17 hc4 rfl (by decide) (by decide) rfl rfl ?_
      refine z_aload_n dX11_of_52 0 rfl ?_
      refine y_getR (M := mX11_of) (r := 1) dX11_of_53 zk_0 flRX11_12 fr_9_0.1 (fr_9_0.2 _) ?_
      refine y_getR (M := mX11_of) (r := 128) dX11_of_56 zk_1 flRX11_43 fr_5_2.1 (fr_5_2.2 _) ?_
      refine z_iload_n dX11_of_59 1 rfl ?_
      obtain ⟨hi3, h⟩ := oif h
      refine y_iald (M := mX11_of) (jj := x1.toNatClampNeg) dX11_of_60 zk_128 hi3 rfl ?_
      cases h
      exact z_iret dX11_of_61 rfl
    replace h := oF hc4 h
    by_cases hc6 : x2 = (1 : Int32)
    · replace h := oT hc6 h
      refine y_sw (1 : Int32) (1) 62 dX11_of_17 hc6 rfl (by decide) (by decide) rfl rfl ?_
      refine z_aload_n dX11_of_62 0 rfl ?_
      refine y_getR (M := mX11_of) (r := 1) dX11_of_63 zk_0 flRX11_12 fr_9_0.1 (fr_9_0.2 _) ?_
      refine y_getR (M := mX11_of) (r := 129) dX11_of_66 zk_1 flRX11_76 fr_5_3.1 (fr_5_3.2 _) ?_
      refine z_iload_n dX11_of_69 1 rfl ?_
      obtain ⟨hi5, h⟩ := oif h
      refine y_iald (M := mX11_of) (jj := x1.toNatClampNeg) dX11_of_70 zk_129 hi5 rfl ?_
      cases h
      exact z_iret dX11_of_71 rfl
    replace h := oF hc6 h
    by_cases hc8 : x2 = (2 : Int32)
    · replace h := oT hc8 h
      refine y_sw (2 : Int32) (2) 72 dX11_of_17 hc8 rfl (by decide) (by decide) rfl rfl ?_
      refine z_aload_n dX11_of_72 0 rfl ?_
      refine y_getR (M := mX11_of) (r := 1) dX11_of_73 zk_0 flRX11_12 fr_9_0.1 (fr_9_0.2 _) ?_
      refine y_getR (M := mX11_of) (r := 2) dX11_of_76 zk_1 flRX11_62 fr_5_0.1 (fr_5_0.2 _) ?_
      refine y_getR (M := mX11_of) (r := 3) dX11_of_79 zk_2 flRX11_193 fr_1_4.1 (fr_1_4.2 _) ?_
      refine z_iload_n dX11_of_82 1 rfl ?_
      obtain ⟨hi7, h⟩ := oif h
      refine y_iald (M := mX11_of) (jj := x1.toNatClampNeg) dX11_of_83 zk_3 hi7 rfl ?_
      cases h
      exact z_iret dX11_of_84 rfl
    replace h := oF hc8 h
    by_cases hc10 : x2 = (3 : Int32)
    · replace h := oT hc10 h
      refine y_sw (3 : Int32) (3) 85 dX11_of_17 hc10 rfl (by decide) (by decide) rfl rfl ?_
      refine z_aload_n dX11_of_85 0 rfl ?_
      refine y_getR (M := mX11_of) (r := 1) dX11_of_86 zk_0 flRX11_12 fr_9_0.1 (fr_9_0.2 _) ?_
      refine y_getR (M := mX11_of) (r := 2) dX11_of_89 zk_1 flRX11_62 fr_5_0.1 (fr_5_0.2 _) ?_
      refine y_getR (M := mX11_of) (r := 4) dX11_of_92 zk_2 flRX11_196 fr_1_5.1 (fr_1_5.2 _) ?_
      refine z_iload_n dX11_of_95 1 rfl ?_
      obtain ⟨hi9, h⟩ := oif h
      refine y_iald (M := mX11_of) (jj := x1.toNatClampNeg) dX11_of_96 zk_4 hi9 rfl ?_
      cases h
      exact z_iret dX11_of_97 rfl
    replace h := oF hc10 h
    by_cases hc11 : x2 = (4 : Int32)
    · replace h := oT hc11 h
      refine y_sw (4 : Int32) (4) 98 dX11_of_17 hc11 rfl (by decide) (by decide) rfl rfl ?_
      refine z_aload_n dX11_of_98 0 rfl ?_
      refine y_getR (M := mX11_of) (r := 1) dX11_of_99 zk_0 flRX11_12 fr_9_0.1 (fr_9_0.2 _) ?_
      refine y_getI dX11_of_102 zk_1 flRX11_199 ?_
      refine z_iload_n dX11_of_105 1 rfl ?_
      refine z_ishr dX11_of_106 ?_
      refine z_iconst (M := mX11_of) (v := 1) dX11_of_107 rfl ?_
      refine z_iand dX11_of_108 ?_
      cases h
      exact z_iret dX11_of_109 rfl
    replace h := oF hc11 h
    have zhc4 := i32ne hc4 (z := 0) rfl
    have zhc6 := i32ne hc6 (z := 1) rfl
    have zhc8 := i32ne hc8 (z := 2) rfl
    have zhc10 := i32ne hc10 (z := 3) rfl
    have zhc11 := i32ne hc11 (z := 4) rfl
    refine z_tableOut 110 dX11_of_17 (by omega) rfl ?_
    refine z_iconst (M := mX11_of) (v := -1) dX11_of_110 rfl ?_
    cases h
    exact z_iret dX11_of_111 rfl
  · replace h := oFn hc2 h
    refine z_iconst (M := mX11_of) (v := -1) dX11_of_14 rfl ?_
    cases h
    exact z_iret dX11_of_15 rfl
theorem ct_Fm_of {g : GG} {d : Nat} {x1 : Int32} {x2 : Int32} {ν : Nm} {r : Int32} (hd0 : 2 ≤ d)  (h : Fm_of ν x1 x2 = some r) : Ct g d mX11_of [.ref 0, .int x1, .int x2] (zem ν) (some (.int r), zem ν) := y_entry in_X11_of (Nat.le_of_ble_eq_true rfl) rfl (t_Fm_of hd0 x1 x2 r h)
-- FuseMinutes.law(IZZ)I
theorem dX11_law_0 : decode cX11_law 0 = .ok (.aload_n 0, 1) := by decide +kernel
theorem dX11_law_1 : decode cX11_law 1 = .ok (.getfield 12, 3) := by decide +kernel
theorem dX11_law_4 : decode cX11_law 4 = .ok (.getfield 62, 3) := by decide +kernel
theorem dX11_law_7 : decode cX11_law 7 = .ok (.iload_n 1, 1) := by decide +kernel
theorem dX11_law_8 : decode cX11_law 8 = .ok (.invokevirtual 190, 3) := by decide +kernel
theorem dX11_law_11 : decode cX11_law 11 = .ok (.ifCond .ne 6, 3) := by decide +kernel
theorem dX11_law_14 : decode cX11_law 14 = .ok (.bipush (-100), 2) := by decide +kernel
theorem dX11_law_16 : decode cX11_law 16 = .ok (.ireturn, 1) := by decide +kernel
theorem dX11_law_17 : decode cX11_law 17 = .ok (.iload_n 3, 1) := by decide +kernel
theorem dX11_law_18 : decode cX11_law 18 = .ok (.ifCond .eq 20, 3) := by decide +kernel
theorem dX11_law_21 : decode cX11_law 21 = .ok (.aload_n 0, 1) := by decide +kernel
theorem dX11_law_22 : decode cX11_law 22 = .ok (.iload_n 1, 1) := by decide +kernel
theorem dX11_law_23 : decode cX11_law 23 = .ok (.iload_n 2, 1) := by decide +kernel
theorem dX11_law_24 : decode cX11_law 24 = .ok (.ifCond .eq 7, 3) := by decide +kernel
theorem dX11_law_27 : decode cX11_law 27 = .ok (.iconst 1, 1) := by decide +kernel
theorem dX11_law_28 : decode cX11_law 28 = .ok (.goto 4, 3) := by decide +kernel
theorem dX11_law_31 : decode cX11_law 31 = .ok (.iconst 0, 1) := by decide +kernel
theorem dX11_law_32 : decode cX11_law 32 = .ok (.invokevirtual 202, 3) := by decide +kernel
theorem dX11_law_35 : decode cX11_law 35 = .ok (.goto 15, 3) := by decide +kernel
theorem dX11_law_38 : decode cX11_law 38 = .ok (.aload_n 0, 1) := by decide +kernel
theorem dX11_law_39 : decode cX11_law 39 = .ok (.aload_n 0, 1) := by decide +kernel
theorem dX11_law_40 : decode cX11_law 40 = .ok (.getfield 12, 3) := by decide +kernel
theorem dX11_law_43 : decode cX11_law 43 = .ok (.getfield 111, 3) := by decide +kernel
theorem dX11_law_46 : decode cX11_law 46 = .ok (.iload_n 1, 1) := by decide +kernel
theorem dX11_law_47 : decode cX11_law 47 = .ok (.invokevirtual 205, 3) := by decide +kernel
theorem dX11_law_50 : decode cX11_law 50 = .ok (.ireturn, 1) := by decide +kernel
def Fm_law_32 (s0 : Int32) (s1 : Int32) (ν : Nm) : Option (Int32 × Nm) :=
  (Fm_lightsSays s1 s0 ν).bind fun v1 =>
  some (v1.1, v1.2)
set_option maxRecDepth 100000 in
set_option maxHeartbeats 4000000 in
theorem t_Fm_law_32 {g : GG} {d : Nat} (hd0 : 5 ≤ d) : ∀ (s0 : Int32) (s1 : Int32) (ν : Nm) (r : (Int32 × Nm)), Fm_law_32 s0 s1 ν = some r → Z g d (0, 0) mX11_law 333 0 0 32 [] [.int s0, .int s1, .ref 0] (zem ν) (zF g (some (.int r.1), zem r.2)) := by
  intro s0 s1 ν r h
  unfold Fm_law_32 at h
  obtain ⟨v1, he1, h⟩ := obind h
  refine y_Vi (M := mX11_law) (Y := mX11_lightsSays) (d2 := d - 1) (As := [.int s1, .int s0]) (st := []) dX11_law_32 mlRX11_202 cv_X11_lightsSays zk_0 (ct_Fm_lightsSays (dle (Nat.le_of_ble_eq_true rfl) hd0) he1) (dps (Nat.le_of_ble_eq_true rfl) hd0) rfl rfl (Nat.le_of_ble_eq_true rfl) ?_
  refine z_goto 50 dX11_law_35 rfl ?_
  cases h
  exact z_iret dX11_law_50 rfl
def Fm_law (x1 : Int32) (x2 : Int32) (x3 : Int32) (ν : Nm) : Option (Int32 × Nm) :=
  (Pt_has ν 2 x1).bind fun v1 =>
  (if ¬ (b2i v1) = 0 then
    (if x3 = 0 then
      (Fm_failsSays (gi ν 1 7) x1 ν).bind fun v4 =>
      some (v4.1, v4.2)
    else
      (if x2 = 0 then
        Fm_law_32 (0 : Int32) x1 ν
      else
        Fm_law_32 (1 : Int32) x1 ν))
  else
    some ((-100 : Int32), ν))
set_option maxRecDepth 100000 in
set_option maxHeartbeats 4000000 in
theorem t_Fm_law {g : GG} {d : Nat} (hd0 : 5 ≤ d) : ∀ (x1 : Int32) (x2 : Int32) (x3 : Int32) (ν : Nm) (r : (Int32 × Nm)), Fm_law x1 x2 x3 ν = some r → Z g d (0, 0) mX11_law 333 0 0 0 [(0, .ref 0), (1, .int x1), (2, .int x2), (3, .int x3)] [] (zem ν) (zF g (some (.int r.1), zem r.2)) := by
  intro x1 x2 x3 ν r h
  unfold Fm_law at h
  refine z_aload_n dX11_law_0 0 rfl ?_
  refine y_getR (M := mX11_law) (r := 1) dX11_law_1 zk_0 flRX11_12 fr_9_0.1 (fr_9_0.2 _) ?_
  refine y_getR (M := mX11_law) (r := 2) dX11_law_4 zk_1 flRX11_62 fr_5_0.1 (fr_5_0.2 _) ?_
  refine z_iload_n dX11_law_7 1 rfl ?_
  obtain ⟨v1, he1, h⟩ := obind h
  refine y_Vi (M := mX11_law) (Y := mX2_has) (d2 := d - 1) (As := [.int x1]) (st := []) dX11_law_8 mlRX11_190 cv_X2_has zk_2 (ct_Pt_has (dle (Nat.le_of_ble_eq_true rfl) hd0) zk_2 he1) (dps (Nat.le_of_ble_eq_true rfl) hd0) rfl rfl (Nat.le_of_ble_eq_true rfl) ?_
  refine z_if_ne 17 dX11_law_11 rfl (fun hc2 => ?_) (fun hc2 => ?_)
  · replace h := oT hc2 h
    refine z_iload_n dX11_law_17 3 rfl ?_
    refine z_if_eq 38 dX11_law_18 rfl (fun hc3 => ?_) (fun hc3 => ?_)
    · replace h := oT hc3 h
      refine z_aload_n dX11_law_38 0 rfl ?_
      refine z_aload_n dX11_law_39 0 rfl ?_
      refine y_getR (M := mX11_law) (r := 1) dX11_law_40 zk_0 flRX11_12 fr_9_0.1 (fr_9_0.2 _) ?_
      refine y_getI dX11_law_43 zk_1 flRX11_111 ?_
      refine z_iload_n dX11_law_46 1 rfl ?_
      obtain ⟨v4, he4, h⟩ := obind h
      refine y_Vi (M := mX11_law) (Y := mX11_failsSays) (d2 := d - 1) (As := [.int (gi ν 1 7), .int x1]) (st := []) dX11_law_47 mlRX11_205 cv_X11_failsSays zk_0 (ct_Fm_failsSays (dle (Nat.le_of_ble_eq_true rfl) hd0) he4) (dps (Nat.le_of_ble_eq_true rfl) hd0) rfl rfl (Nat.le_of_ble_eq_true rfl) ?_
      cases h
      exact z_iret dX11_law_50 rfl
    · replace h := oF hc3 h
      refine z_aload_n dX11_law_21 0 rfl ?_
      refine z_iload_n dX11_law_22 1 rfl ?_
      refine z_iload_n dX11_law_23 2 rfl ?_
      refine z_if_eq 31 dX11_law_24 rfl (fun hc5 => ?_) (fun hc5 => ?_)
      · replace h := oT hc5 h
        refine z_iconst (M := mX11_law) (v := 0) dX11_law_31 rfl ?_
        refine z_lv (lv2 := []) [] rfl ?_
        exact t_Fm_law_32 hd0  (0 : Int32) x1 ν _ h
      · replace h := oF hc5 h
        refine z_iconst (M := mX11_law) (v := 1) dX11_law_27 rfl ?_
        refine z_goto 32 dX11_law_28 rfl ?_
        refine z_lv (lv2 := []) [] rfl ?_
        exact t_Fm_law_32 hd0  (1 : Int32) x1 ν _ h
  · replace h := oFn hc2 h
    refine z_bipush (M := mX11_law) (v := -100) dX11_law_14 rfl ?_
    cases h
    exact z_iret dX11_law_16 rfl
theorem ct_Fm_law {g : GG} {d : Nat} {x1 : Int32} {x2 : Int32} {x3 : Int32} {ν : Nm} {r : (Int32 × Nm)} (hd0 : 5 ≤ d)  (h : Fm_law x1 x2 x3 ν = some r) : Ct g d mX11_law [.ref 0, .int x1, .int x2, .int x3] (zem ν) (some (.int r.1), zem r.2) := y_entry in_X11_law (Nat.le_of_ble_eq_true rfl) rfl (t_Fm_law hd0 x1 x2 x3 ν r h)
-- FuseMinutes.is(I)I
theorem dX11_is_0 : decode cX11_is 0 = .ok (.iload_n 1, 1) := by decide +kernel
theorem dX11_is_1 : decode cX11_is 1 = .ok (.tableswitch 75 0 3 #[31, 42, 53, 64], 31) := by decide +kernel
theorem dX11_is_32 : decode cX11_is 32 = .ok (.aload_n 0, 1) := by decide +kernel
theorem dX11_is_33 : decode cX11_is 33 = .ok (.getfield 12, 3) := by decide +kernel
theorem dX11_is_36 : decode cX11_is 36 = .ok (.getfield 62, 3) := by decide +kernel
theorem dX11_is_39 : decode cX11_is 39 = .ok (.getfield 180, 3) := by decide +kernel
theorem dX11_is_42 : decode cX11_is 42 = .ok (.ireturn, 1) := by decide +kernel
theorem dX11_is_43 : decode cX11_is 43 = .ok (.aload_n 0, 1) := by decide +kernel
theorem dX11_is_44 : decode cX11_is 44 = .ok (.getfield 12, 3) := by decide +kernel
theorem dX11_is_47 : decode cX11_is 47 = .ok (.getfield 62, 3) := by decide +kernel
theorem dX11_is_50 : decode cX11_is 50 = .ok (.getfield 171, 3) := by decide +kernel
theorem dX11_is_53 : decode cX11_is 53 = .ok (.ireturn, 1) := by decide +kernel
theorem dX11_is_54 : decode cX11_is 54 = .ok (.aload_n 0, 1) := by decide +kernel
theorem dX11_is_55 : decode cX11_is 55 = .ok (.getfield 12, 3) := by decide +kernel
theorem dX11_is_58 : decode cX11_is 58 = .ok (.getfield 62, 3) := by decide +kernel
theorem dX11_is_61 : decode cX11_is 61 = .ok (.getfield 208, 3) := by decide +kernel
theorem dX11_is_64 : decode cX11_is 64 = .ok (.ireturn, 1) := by decide +kernel
theorem dX11_is_65 : decode cX11_is 65 = .ok (.aload_n 0, 1) := by decide +kernel
theorem dX11_is_66 : decode cX11_is 66 = .ok (.getfield 12, 3) := by decide +kernel
theorem dX11_is_69 : decode cX11_is 69 = .ok (.getfield 62, 3) := by decide +kernel
theorem dX11_is_72 : decode cX11_is 72 = .ok (.invokevirtual 211, 3) := by decide +kernel
theorem dX11_is_75 : decode cX11_is 75 = .ok (.ireturn, 1) := by decide +kernel
theorem dX11_is_76 : decode cX11_is 76 = .ok (.bipush (-2), 2) := by decide +kernel
theorem dX11_is_78 : decode cX11_is 78 = .ok (.ireturn, 1) := by decide +kernel
def Fm_is (ν : Nm) (x1 : Int32) : Option Int32 :=
  (if x1 = (0 : Int32) then
    some (gi ν 2 1)
  else
  (if x1 = (1 : Int32) then
    some (gi ν 2 2)
  else
  (if x1 = (2 : Int32) then
    some (gi ν 2 3)
  else
  (if x1 = (3 : Int32) then
    (Pt_endsBurning ν 2).bind fun v4 =>
    some v4
  else
    some (-2 : Int32)))))
set_option maxRecDepth 100000 in
set_option maxHeartbeats 4000000 in
theorem t_Fm_is {g : GG} {d : Nat} {ν : Nm} (hd0 : 2 ≤ d) : ∀ (x1 : Int32) (r : Int32), Fm_is ν x1 = some r → Z g d (0, 0) mX11_is 333 0 0 0 [(0, .ref 0), (1, .int x1)] [] (zem ν) (zF g (some (.int r), zem ν)) := by
  intro x1 r h
  unfold Fm_is at h
  refine z_iload_n dX11_is_0 1 rfl ?_
  by_cases hc1 : x1 = (0 : Int32)
  · replace h := oT hc1 h
    refine y_sw (0 : Int32) (0) 32 dX11_is_1 hc1 rfl (by decide) (by decide) rfl rfl ?_
    refine z_aload_n dX11_is_32 0 rfl ?_
    refine y_getR (M := mX11_is) (r := 1) dX11_is_33 zk_0 flRX11_12 fr_9_0.1 (fr_9_0.2 _) ?_
    refine y_getR (M := mX11_is) (r := 2) dX11_is_36 zk_1 flRX11_62 fr_5_0.1 (fr_5_0.2 _) ?_
    refine y_getI dX11_is_39 zk_2 flRX11_180 ?_
    cases h
    exact z_iret dX11_is_42 rfl
  replace h := oF hc1 h
  by_cases hc2 : x1 = (1 : Int32)
  · replace h := oT hc2 h
    refine y_sw (1 : Int32) (1) 43 dX11_is_1 hc2 rfl (by decide) (by decide) rfl rfl ?_
    refine z_aload_n dX11_is_43 0 rfl ?_
    refine y_getR (M := mX11_is) (r := 1) dX11_is_44 zk_0 flRX11_12 fr_9_0.1 (fr_9_0.2 _) ?_
    refine y_getR (M := mX11_is) (r := 2) dX11_is_47 zk_1 flRX11_62 fr_5_0.1 (fr_5_0.2 _) ?_
    refine y_getI dX11_is_50 zk_2 flRX11_171 ?_
    cases h
    exact z_iret dX11_is_53 rfl
  replace h := oF hc2 h
  by_cases hc3 : x1 = (2 : Int32)
  · replace h := oT hc3 h
    refine y_sw (2 : Int32) (2) 54 dX11_is_1 hc3 rfl (by decide) (by decide) rfl rfl ?_
    refine z_aload_n dX11_is_54 0 rfl ?_
    refine y_getR (M := mX11_is) (r := 1) dX11_is_55 zk_0 flRX11_12 fr_9_0.1 (fr_9_0.2 _) ?_
    refine y_getR (M := mX11_is) (r := 2) dX11_is_58 zk_1 flRX11_62 fr_5_0.1 (fr_5_0.2 _) ?_
    refine y_getI dX11_is_61 zk_2 flRX11_208 ?_
    cases h
    exact z_iret dX11_is_64 rfl
  replace h := oF hc3 h
  by_cases hc5 : x1 = (3 : Int32)
  · replace h := oT hc5 h
    refine y_sw (3 : Int32) (3) 65 dX11_is_1 hc5 rfl (by decide) (by decide) rfl rfl ?_
    refine z_aload_n dX11_is_65 0 rfl ?_
    refine y_getR (M := mX11_is) (r := 1) dX11_is_66 zk_0 flRX11_12 fr_9_0.1 (fr_9_0.2 _) ?_
    refine y_getR (M := mX11_is) (r := 2) dX11_is_69 zk_1 flRX11_62 fr_5_0.1 (fr_5_0.2 _) ?_
    obtain ⟨v4, he4, h⟩ := obind h
    refine y_Vi (M := mX11_is) (Y := mX2_endsBurning) (d2 := d - 1) (As := []) (st := []) dX11_is_72 mlRX11_211 cv_X2_endsBurning zk_2 (ct_Pt_endsBurning (dle (Nat.le_of_ble_eq_true rfl) hd0) zk_2 he4) (dps (Nat.le_of_ble_eq_true rfl) hd0) rfl rfl (Nat.le_of_ble_eq_true rfl) ?_
    cases h
    exact z_iret dX11_is_75 rfl
  replace h := oF hc5 h
  have zhc1 := i32ne hc1 (z := 0) rfl
  have zhc2 := i32ne hc2 (z := 1) rfl
  have zhc3 := i32ne hc3 (z := 2) rfl
  have zhc5 := i32ne hc5 (z := 3) rfl
  refine z_tableOut 76 dX11_is_1 (by omega) rfl ?_
  refine z_bipush (M := mX11_is) (v := -2) dX11_is_76 rfl ?_
  cases h
  exact z_iret dX11_is_78 rfl
theorem ct_Fm_is {g : GG} {d : Nat} {x1 : Int32} {ν : Nm} {r : Int32} (hd0 : 2 ≤ d)  (h : Fm_is ν x1 = some r) : Ct g d mX11_is [.ref 0, .int x1] (zem ν) (some (.int r), zem ν) := y_entry in_X11_is (Nat.le_of_ble_eq_true rfl) rfl (t_Fm_is hd0 x1 r h)
-- FuseMinutes.partOfLine(II)I
theorem dX11_partOfLine_0 : decode cX11_partOfLine 0 = .ok (.iload_n 1, 1) := by decide +kernel
theorem dX11_partOfLine_1 : decode cX11_partOfLine 1 = .ok (.tableswitch 43 0 2 #[27, 31, 37], 27) := by decide +kernel
theorem dX11_partOfLine_28 : decode cX11_partOfLine 28 = .ok (.iload_n 0, 1) := by decide +kernel
theorem dX11_partOfLine_29 : decode cX11_partOfLine 29 = .ok (.iconst 5, 1) := by decide +kernel
theorem dX11_partOfLine_30 : decode cX11_partOfLine 30 = .ok (.ishr, 1) := by decide +kernel
theorem dX11_partOfLine_31 : decode cX11_partOfLine 31 = .ok (.ireturn, 1) := by decide +kernel
theorem dX11_partOfLine_32 : decode cX11_partOfLine 32 = .ok (.iload_n 0, 1) := by decide +kernel
theorem dX11_partOfLine_33 : decode cX11_partOfLine 33 = .ok (.iconst 3, 1) := by decide +kernel
theorem dX11_partOfLine_34 : decode cX11_partOfLine 34 = .ok (.ishr, 1) := by decide +kernel
theorem dX11_partOfLine_35 : decode cX11_partOfLine 35 = .ok (.iconst 3, 1) := by decide +kernel
theorem dX11_partOfLine_36 : decode cX11_partOfLine 36 = .ok (.iand, 1) := by decide +kernel
theorem dX11_partOfLine_37 : decode cX11_partOfLine 37 = .ok (.ireturn, 1) := by decide +kernel
theorem dX11_partOfLine_38 : decode cX11_partOfLine 38 = .ok (.iload_n 0, 1) := by decide +kernel
theorem dX11_partOfLine_39 : decode cX11_partOfLine 39 = .ok (.iconst 1, 1) := by decide +kernel
theorem dX11_partOfLine_40 : decode cX11_partOfLine 40 = .ok (.ishr, 1) := by decide +kernel
theorem dX11_partOfLine_41 : decode cX11_partOfLine 41 = .ok (.iconst 3, 1) := by decide +kernel
theorem dX11_partOfLine_42 : decode cX11_partOfLine 42 = .ok (.iand, 1) := by decide +kernel
theorem dX11_partOfLine_43 : decode cX11_partOfLine 43 = .ok (.ireturn, 1) := by decide +kernel
theorem dX11_partOfLine_44 : decode cX11_partOfLine 44 = .ok (.iload_n 0, 1) := by decide +kernel
theorem dX11_partOfLine_45 : decode cX11_partOfLine 45 = .ok (.iconst 1, 1) := by decide +kernel
theorem dX11_partOfLine_46 : decode cX11_partOfLine 46 = .ok (.iand, 1) := by decide +kernel
theorem dX11_partOfLine_47 : decode cX11_partOfLine 47 = .ok (.ireturn, 1) := by decide +kernel
def Fm_partOfLine (x0 : Int32) (x1 : Int32) : Option Int32 :=
  (if x1 = (0 : Int32) then
    some (x0 >>> ((5 : Int32) &&& 31))
  else
  (if x1 = (1 : Int32) then
    some ((x0 >>> ((3 : Int32) &&& 31)) &&& (3 : Int32))
  else
  (if x1 = (2 : Int32) then
    some ((x0 >>> ((1 : Int32) &&& 31)) &&& (3 : Int32))
  else
    some (x0 &&& (1 : Int32)))))
set_option maxRecDepth 100000 in
set_option maxHeartbeats 4000000 in
theorem t_Fm_partOfLine {g : GG} {d : Nat} {μ : Mm} (hd0 : 1 ≤ d) : ∀ (x0 : Int32) (x1 : Int32) (r : Int32), Fm_partOfLine x0 x1 = some r → Z g d (0, 0) mX11_partOfLine 333 0 0 0 [(0, .int x0), (1, .int x1)] [] μ (zF g (some (.int r), μ)) := by
  intro x0 x1 r h
  unfold Fm_partOfLine at h
  refine z_iload_n dX11_partOfLine_0 1 rfl ?_
  by_cases hc1 : x1 = (0 : Int32)
  · replace h := oT hc1 h
    refine y_sw (0 : Int32) (0) 28 dX11_partOfLine_1 hc1 rfl (by decide) (by decide) rfl rfl ?_
    refine z_iload_n dX11_partOfLine_28 0 rfl ?_
    refine z_iconst (M := mX11_partOfLine) (v := 5) dX11_partOfLine_29 rfl ?_
    refine z_ishr dX11_partOfLine_30 ?_
    cases h
    exact z_iret dX11_partOfLine_31 rfl
  replace h := oF hc1 h
  by_cases hc2 : x1 = (1 : Int32)
  · replace h := oT hc2 h
    refine y_sw (1 : Int32) (1) 32 dX11_partOfLine_1 hc2 rfl (by decide) (by decide) rfl rfl ?_
    refine z_iload_n dX11_partOfLine_32 0 rfl ?_
    refine z_iconst (M := mX11_partOfLine) (v := 3) dX11_partOfLine_33 rfl ?_
    refine z_ishr dX11_partOfLine_34 ?_
    refine z_iconst (M := mX11_partOfLine) (v := 3) dX11_partOfLine_35 rfl ?_
    refine z_iand dX11_partOfLine_36 ?_
    cases h
    exact z_iret dX11_partOfLine_37 rfl
  replace h := oF hc2 h
  by_cases hc3 : x1 = (2 : Int32)
  · replace h := oT hc3 h
    refine y_sw (2 : Int32) (2) 38 dX11_partOfLine_1 hc3 rfl (by decide) (by decide) rfl rfl ?_
    refine z_iload_n dX11_partOfLine_38 0 rfl ?_
    refine z_iconst (M := mX11_partOfLine) (v := 1) dX11_partOfLine_39 rfl ?_
    refine z_ishr dX11_partOfLine_40 ?_
    refine z_iconst (M := mX11_partOfLine) (v := 3) dX11_partOfLine_41 rfl ?_
    refine z_iand dX11_partOfLine_42 ?_
    cases h
    exact z_iret dX11_partOfLine_43 rfl
  replace h := oF hc3 h
  have zhc1 := i32ne hc1 (z := 0) rfl
  have zhc2 := i32ne hc2 (z := 1) rfl
  have zhc3 := i32ne hc3 (z := 2) rfl
  refine z_tableOut 44 dX11_partOfLine_1 (by omega) rfl ?_
  refine z_iload_n dX11_partOfLine_44 0 rfl ?_
  refine z_iconst (M := mX11_partOfLine) (v := 1) dX11_partOfLine_45 rfl ?_
  refine z_iand dX11_partOfLine_46 ?_
  cases h
  exact z_iret dX11_partOfLine_47 rfl
theorem ct_Fm_partOfLine {g : GG} {d : Nat} {x0 : Int32} {x1 : Int32} {μ : Mm} {r : Int32} (hd0 : 1 ≤ d)  (h : Fm_partOfLine x0 x1 = some r) : Ct g d mX11_partOfLine [.int x0, .int x1] μ (some (.int r), μ) := y_entry in_X11_partOfLine (Nat.le_of_ble_eq_true rfl) rfl (t_Fm_partOfLine hd0 x0 x1 r h)
-- FuseMinutes.book(II)I
theorem dX11_book_0 : decode cX11_book 0 = .ok (.aload_n 0, 1) := by decide +kernel
theorem dX11_book_1 : decode cX11_book 1 = .ok (.getfield 12, 3) := by decide +kernel
theorem dX11_book_4 : decode cX11_book 4 = .ok (.getfield 62, 3) := by decide +kernel
theorem dX11_book_7 : decode cX11_book 7 = .ok (.astore_n 3, 1) := by decide +kernel
theorem dX11_book_8 : decode cX11_book 8 = .ok (.iload_n 1, 1) := by decide +kernel
theorem dX11_book_9 : decode cX11_book 9 = .ok (.iconst (-1), 1) := by decide +kernel
theorem dX11_book_10 : decode cX11_book 10 = .ok (.if_icmp .ne 8, 3) := by decide +kernel
theorem dX11_book_13 : decode cX11_book 13 = .ok (.aload_n 3, 1) := by decide +kernel
theorem dX11_book_14 : decode cX11_book 14 = .ok (.getfield 214, 3) := by decide +kernel
theorem dX11_book_17 : decode cX11_book 17 = .ok (.ireturn, 1) := by decide +kernel
theorem dX11_book_18 : decode cX11_book 18 = .ok (.iload_n 1, 1) := by decide +kernel
theorem dX11_book_19 : decode cX11_book 19 = .ok (.ifCond .lt 26, 3) := by decide +kernel
theorem dX11_book_22 : decode cX11_book 22 = .ok (.iload_n 1, 1) := by decide +kernel
theorem dX11_book_23 : decode cX11_book 23 = .ok (.aload_n 3, 1) := by decide +kernel
theorem dX11_book_24 : decode cX11_book 24 = .ok (.getfield 214, 3) := by decide +kernel
theorem dX11_book_27 : decode cX11_book 27 = .ok (.if_icmp .ge 18, 3) := by decide +kernel
theorem dX11_book_30 : decode cX11_book 30 = .ok (.iload_n 1, 1) := by decide +kernel
theorem dX11_book_31 : decode cX11_book 31 = .ok (.bipush 30, 2) := by decide +kernel
theorem dX11_book_33 : decode cX11_book 33 = .ok (.if_icmp .ge 12, 3) := by decide +kernel
theorem dX11_book_36 : decode cX11_book 36 = .ok (.iload_n 2, 1) := by decide +kernel
theorem dX11_book_37 : decode cX11_book 37 = .ok (.iconst 0, 1) := by decide +kernel
theorem dX11_book_38 : decode cX11_book 38 = .ok (.iconst 3, 1) := by decide +kernel
theorem dX11_book_39 : decode cX11_book 39 = .ok (.invokestatic 72, 3) := by decide +kernel
theorem dX11_book_42 : decode cX11_book 42 = .ok (.ifCond .ne 6, 3) := by decide +kernel
theorem dX11_book_45 : decode cX11_book 45 = .ok (.bipush (-2), 2) := by decide +kernel
theorem dX11_book_47 : decode cX11_book 47 = .ok (.ireturn, 1) := by decide +kernel
theorem dX11_book_48 : decode cX11_book 48 = .ok (.aload_n 3, 1) := by decide +kernel
theorem dX11_book_49 : decode cX11_book 49 = .ok (.getfield 217, 3) := by decide +kernel
theorem dX11_book_52 : decode cX11_book 52 = .ok (.iload_n 1, 1) := by decide +kernel
theorem dX11_book_53 : decode cX11_book 53 = .ok (.iaload, 1) := by decide +kernel
theorem dX11_book_54 : decode cX11_book 54 = .ok (.iload_n 2, 1) := by decide +kernel
theorem dX11_book_55 : decode cX11_book 55 = .ok (.invokestatic 220, 3) := by decide +kernel
theorem dX11_book_58 : decode cX11_book 58 = .ok (.ireturn, 1) := by decide +kernel
def Fm_book (ν : Nm) (x1 : Int32) (x2 : Int32) : Option Int32 :=
  (if ¬ x1 = (-1 : Int32) then
    (if x1 < 0 then
      some (-2 : Int32)
    else
      (if (gi ν 2 7) ≤ x1 then
        some (-2 : Int32)
      else
        (if (30 : Int32) ≤ x1 then
          some (-2 : Int32)
        else
          (Fm_within x2 (0 : Int32) (3 : Int32)).bind fun v5 =>
          (if ¬ (b2i v5) = 0 then
            if inb x1 30 then
            (Fm_partOfLine (gi ν 5 x1.toNatClampNeg) x2).bind fun v8 =>
            some v8
            else none
          else
            some (-2 : Int32)))))
  else
    some (gi ν 2 7))
set_option maxRecDepth 100000 in
set_option maxHeartbeats 4000000 in
theorem t_Fm_book {g : GG} {d : Nat} {ν : Nm} (hd0 : 2 ≤ d) : ∀ (x1 : Int32) (x2 : Int32) (r : Int32), Fm_book ν x1 x2 = some r → Z g d (0, 0) mX11_book 333 0 0 0 [(0, .ref 0), (1, .int x1), (2, .int x2)] [] (zem ν) (zF g (some (.int r), zem ν)) := by
  intro x1 x2 r h
  unfold Fm_book at h
  refine z_aload_n dX11_book_0 0 rfl ?_
  refine y_getR (M := mX11_book) (r := 1) dX11_book_1 zk_0 flRX11_12 fr_9_0.1 (fr_9_0.2 _) ?_
  refine y_getR (M := mX11_book) (r := 2) dX11_book_4 zk_1 flRX11_62 fr_5_0.1 (fr_5_0.2 _) ?_
  refine z_astore_n (M := mX11_book) (lv2 := [(3, .ref 2), (0, .ref 0), (1, .int x1), (2, .int x2)]) dX11_book_7 (Nat.le_of_ble_eq_true rfl) rfl ?_
  refine z_iload_n dX11_book_8 2 rfl ?_
  refine z_iconst (M := mX11_book) (v := -1) dX11_book_9 rfl ?_
  refine z_icmp_ne 18 dX11_book_10 rfl (fun hc1 => ?_) (fun hc1 => ?_)
  · replace h := oT hc1 h
    refine z_iload_n dX11_book_18 2 rfl ?_
    refine z_if_lt 45 dX11_book_19 rfl (fun hc2 => ?_) (fun hc2 => ?_)
    · replace h := oT hc2 h
      refine z_bipush (M := mX11_book) (v := -2) dX11_book_45 rfl ?_
      cases h
      exact z_iret dX11_book_47 rfl
    · replace h := oF hc2 h
      refine z_iload_n dX11_book_22 2 rfl ?_
      refine z_aload_n dX11_book_23 0 rfl ?_
      refine y_getI dX11_book_24 zk_2 flRX11_214 ?_
      refine z_icmp_ge 45 dX11_book_27 rfl (fun hc3 => ?_) (fun hc3 => ?_)
      · replace h := oT hc3 h
        refine z_bipush (M := mX11_book) (v := -2) dX11_book_45 rfl ?_
        cases h
        exact z_iret dX11_book_47 rfl
      · replace h := oF hc3 h
        refine z_iload_n dX11_book_30 2 rfl ?_
        refine z_bipush (M := mX11_book) (v := 30) dX11_book_31 rfl ?_
        refine z_icmp_ge 45 dX11_book_33 rfl (fun hc4 => ?_) (fun hc4 => ?_)
        · replace h := oT hc4 h
          refine z_bipush (M := mX11_book) (v := -2) dX11_book_45 rfl ?_
          cases h
          exact z_iret dX11_book_47 rfl
        · replace h := oF hc4 h
          refine z_iload_n dX11_book_36 3 rfl ?_
          refine z_iconst (M := mX11_book) (v := 0) dX11_book_37 rfl ?_
          refine z_iconst (M := mX11_book) (v := 3) dX11_book_38 rfl ?_
          obtain ⟨v5, he5, h⟩ := obind h
          refine y_Si (M := mX11_book) (Y := mX11_within) (d2 := d - 1) (As := [.int x2, .int (0 : Int32), .int (3 : Int32)]) (st := []) dX11_book_39 mlRX11_72 cv_X11_within (ct_Fm_within (dle (Nat.le_of_ble_eq_true rfl) hd0) he5) (dps (Nat.le_of_ble_eq_true rfl) hd0) rfl rfl (Nat.le_of_ble_eq_true rfl) ?_
          refine z_if_ne 48 dX11_book_42 rfl (fun hc6 => ?_) (fun hc6 => ?_)
          · replace h := oT hc6 h
            refine z_aload_n dX11_book_48 0 rfl ?_
            refine y_getR (M := mX11_book) (r := 5) dX11_book_49 zk_2 flRX11_217 fr_1_6.1 (fr_1_6.2 _) ?_
            refine z_iload_n dX11_book_52 2 rfl ?_
            obtain ⟨hi7, h⟩ := oif h
            refine y_iald (M := mX11_book) (jj := x1.toNatClampNeg) dX11_book_53 zk_5 hi7 rfl ?_
            refine z_iload_n dX11_book_54 3 rfl ?_
            obtain ⟨v8, he8, h⟩ := obind h
            refine y_Si (M := mX11_book) (Y := mX11_partOfLine) (d2 := d - 1) (As := [.int (gi ν 5 x1.toNatClampNeg), .int x2]) (st := []) dX11_book_55 mlRX11_220 cv_X11_partOfLine (ct_Fm_partOfLine (dle (Nat.le_of_ble_eq_true rfl) hd0) he8) (dps (Nat.le_of_ble_eq_true rfl) hd0) rfl rfl (Nat.le_of_ble_eq_true rfl) ?_
            cases h
            exact z_iret dX11_book_58 rfl
          · replace h := oFn hc6 h
            refine z_bipush (M := mX11_book) (v := -2) dX11_book_45 rfl ?_
            cases h
            exact z_iret dX11_book_47 rfl
  · replace h := oFn hc1 h
    refine z_aload_n dX11_book_13 0 rfl ?_
    refine y_getI dX11_book_14 zk_2 flRX11_214 ?_
    cases h
    exact z_iret dX11_book_17 rfl
theorem ct_Fm_book {g : GG} {d : Nat} {x1 : Int32} {x2 : Int32} {ν : Nm} {r : Int32} (hd0 : 2 ≤ d)  (h : Fm_book ν x1 x2 = some r) : Ct g d mX11_book [.ref 0, .int x1, .int x2] (zem ν) (some (.int r), zem ν) := y_entry in_X11_book (Nat.le_of_ble_eq_true rfl) rfl (t_Fm_book hd0 x1 x2 r h)
-- FuseMinutes.foretold(II)I
theorem dX11_foretold_0 : decode cX11_foretold 0 = .ok (.iload_n 1, 1) := by decide +kernel
theorem dX11_foretold_1 : decode cX11_foretold 1 = .ok (.iconst 1, 1) := by decide +kernel
theorem dX11_foretold_2 : decode cX11_foretold 2 = .ok (.bipush 60, 2) := by decide +kernel
theorem dX11_foretold_4 : decode cX11_foretold 4 = .ok (.invokestatic 72, 3) := by decide +kernel
theorem dX11_foretold_7 : decode cX11_foretold 7 = .ok (.ifCond .eq 17, 3) := by decide +kernel
theorem dX11_foretold_10 : decode cX11_foretold 10 = .ok (.aload_n 0, 1) := by decide +kernel
theorem dX11_foretold_11 : decode cX11_foretold 11 = .ok (.getfield 12, 3) := by decide +kernel
theorem dX11_foretold_14 : decode cX11_foretold 14 = .ok (.getfield 62, 3) := by decide +kernel
theorem dX11_foretold_17 : decode cX11_foretold 17 = .ok (.iload_n 2, 1) := by decide +kernel
theorem dX11_foretold_18 : decode cX11_foretold 18 = .ok (.invokevirtual 190, 3) := by decide +kernel
theorem dX11_foretold_21 : decode cX11_foretold 21 = .ok (.ifCond .ne 5, 3) := by decide +kernel
theorem dX11_foretold_24 : decode cX11_foretold 24 = .ok (.iconst (-1), 1) := by decide +kernel
theorem dX11_foretold_25 : decode cX11_foretold 25 = .ok (.ireturn, 1) := by decide +kernel
theorem dX11_foretold_26 : decode cX11_foretold 26 = .ok (.iload_n 1, 1) := by decide +kernel
theorem dX11_foretold_27 : decode cX11_foretold 27 = .ok (.bipush 64, 2) := by decide +kernel
theorem dX11_foretold_29 : decode cX11_foretold 29 = .ok (.imul, 1) := by decide +kernel
theorem dX11_foretold_30 : decode cX11_foretold 30 = .ok (.aload_n 0, 1) := by decide +kernel
theorem dX11_foretold_31 : decode cX11_foretold 31 = .ok (.getfield 12, 3) := by decide +kernel
theorem dX11_foretold_34 : decode cX11_foretold 34 = .ok (.getfield 62, 3) := by decide +kernel
theorem dX11_foretold_37 : decode cX11_foretold 37 = .ok (.getfield 196, 3) := by decide +kernel
theorem dX11_foretold_40 : decode cX11_foretold 40 = .ok (.iload_n 2, 1) := by decide +kernel
theorem dX11_foretold_41 : decode cX11_foretold 41 = .ok (.iaload, 1) := by decide +kernel
theorem dX11_foretold_42 : decode cX11_foretold 42 = .ok (.invokestatic 223, 3) := by decide +kernel
theorem dX11_foretold_45 : decode cX11_foretold 45 = .ok (.imul, 1) := by decide +kernel
theorem dX11_foretold_46 : decode cX11_foretold 46 = .ok (.istore_n 3, 1) := by decide +kernel
theorem dX11_foretold_47 : decode cX11_foretold 47 = .ok (.iconst 0, 1) := by decide +kernel
theorem dX11_foretold_48 : decode cX11_foretold 48 = .ok (.aload_n 0, 1) := by decide +kernel
theorem dX11_foretold_49 : decode cX11_foretold 49 = .ok (.getfield 12, 3) := by decide +kernel
theorem dX11_foretold_52 : decode cX11_foretold 52 = .ok (.getfield 62, 3) := by decide +kernel
theorem dX11_foretold_55 : decode cX11_foretold 55 = .ok (.getfield 193, 3) := by decide +kernel
theorem dX11_foretold_58 : decode cX11_foretold 58 = .ok (.iload_n 2, 1) := by decide +kernel
theorem dX11_foretold_59 : decode cX11_foretold 59 = .ok (.iaload, 1) := by decide +kernel
theorem dX11_foretold_60 : decode cX11_foretold 60 = .ok (.iload_n 3, 1) := by decide +kernel
theorem dX11_foretold_61 : decode cX11_foretold 61 = .ok (.isub, 1) := by decide +kernel
theorem dX11_foretold_62 : decode cX11_foretold 62 = .ok (.invokestatic 228, 3) := by decide +kernel
theorem dX11_foretold_65 : decode cX11_foretold 65 = .ok (.ireturn, 1) := by decide +kernel
def Fm_foretold (ν : Nm) (x1 : Int32) (x2 : Int32) : Option Int32 :=
  (Fm_within x1 (1 : Int32) (60 : Int32)).bind fun v1 =>
  (if (b2i v1) = 0 then
    some (-1 : Int32)
  else
    (Pt_has ν 2 x2).bind fun v3 =>
    (if ¬ (b2i v3) = 0 then
      if inb x2 4 then
      (In_bitCount (gi ν 4 x2.toNatClampNeg)).bind fun v6 =>
      if inb x2 4 then
      some (imax (0 : Int32) ((gi ν 3 x2.toNatClampNeg) - ((x1 * (64 : Int32)) * v6)))
      else none
      else none
    else
      some (-1 : Int32)))
set_option maxRecDepth 100000 in
set_option maxHeartbeats 4000000 in
theorem t_Fm_foretold {g : GG} {d : Nat} {ν : Nm} (hd0 : 2 ≤ d) : ∀ (x1 : Int32) (x2 : Int32) (r : Int32), Fm_foretold ν x1 x2 = some r → Z g d (0, 0) mX11_foretold 333 0 0 0 [(0, .ref 0), (1, .int x1), (2, .int x2)] [] (zem ν) (zF g (some (.int r), zem ν)) := by
  intro x1 x2 r h
  unfold Fm_foretold at h
  refine z_iload_n dX11_foretold_0 1 rfl ?_
  refine z_iconst (M := mX11_foretold) (v := 1) dX11_foretold_1 rfl ?_
  refine z_bipush (M := mX11_foretold) (v := 60) dX11_foretold_2 rfl ?_
  obtain ⟨v1, he1, h⟩ := obind h
  refine y_Si (M := mX11_foretold) (Y := mX11_within) (d2 := d - 1) (As := [.int x1, .int (1 : Int32), .int (60 : Int32)]) (st := []) dX11_foretold_4 mlRX11_72 cv_X11_within (ct_Fm_within (dle (Nat.le_of_ble_eq_true rfl) hd0) he1) (dps (Nat.le_of_ble_eq_true rfl) hd0) rfl rfl (Nat.le_of_ble_eq_true rfl) ?_
  refine z_if_eq 24 dX11_foretold_7 rfl (fun hc2 => ?_) (fun hc2 => ?_)
  · replace h := oT hc2 h
    refine z_iconst (M := mX11_foretold) (v := -1) dX11_foretold_24 rfl ?_
    cases h
    exact z_iret dX11_foretold_25 rfl
  · replace h := oF hc2 h
    refine z_aload_n dX11_foretold_10 0 rfl ?_
    refine y_getR (M := mX11_foretold) (r := 1) dX11_foretold_11 zk_0 flRX11_12 fr_9_0.1 (fr_9_0.2 _) ?_
    refine y_getR (M := mX11_foretold) (r := 2) dX11_foretold_14 zk_1 flRX11_62 fr_5_0.1 (fr_5_0.2 _) ?_
    refine z_iload_n dX11_foretold_17 2 rfl ?_
    obtain ⟨v3, he3, h⟩ := obind h
    refine y_Vi (M := mX11_foretold) (Y := mX2_has) (d2 := d - 1) (As := [.int x2]) (st := []) dX11_foretold_18 mlRX11_190 cv_X2_has zk_2 (ct_Pt_has (dle (Nat.le_of_ble_eq_true rfl) hd0) zk_2 he3) (dps (Nat.le_of_ble_eq_true rfl) hd0) rfl rfl (Nat.le_of_ble_eq_true rfl) ?_
    refine z_if_ne 26 dX11_foretold_21 rfl (fun hc4 => ?_) (fun hc4 => ?_)
    · replace h := oT hc4 h
      refine z_iload_n dX11_foretold_26 1 rfl ?_
      refine z_bipush (M := mX11_foretold) (v := 64) dX11_foretold_27 rfl ?_
      refine z_imul dX11_foretold_29 ?_
      refine z_aload_n dX11_foretold_30 0 rfl ?_
      refine y_getR (M := mX11_foretold) (r := 1) dX11_foretold_31 zk_0 flRX11_12 fr_9_0.1 (fr_9_0.2 _) ?_
      refine y_getR (M := mX11_foretold) (r := 2) dX11_foretold_34 zk_1 flRX11_62 fr_5_0.1 (fr_5_0.2 _) ?_
      refine y_getR (M := mX11_foretold) (r := 4) dX11_foretold_37 zk_2 flRX11_196 fr_1_5.1 (fr_1_5.2 _) ?_
      refine z_iload_n dX11_foretold_40 2 rfl ?_
      obtain ⟨hi5, h⟩ := oif h
      refine y_iald (M := mX11_foretold) (jj := x2.toNatClampNeg) dX11_foretold_41 zk_4 hi5 rfl ?_
      obtain ⟨v6, he6, h⟩ := obind h
      refine y_Si (M := mX11_foretold) (Y := mJ6_bitCount_0f7a4) (d2 := d - 1) (As := [.int (gi ν 4 x2.toNatClampNeg)]) (st := [.int (x1 * (64 : Int32))]) dX11_foretold_42 mlRX11_223 cv_J6_bitCount_0f7a4 (ct_In_bitCount (dle (Nat.le_of_ble_eq_true rfl) hd0) he6) (dps (Nat.le_of_ble_eq_true rfl) hd0) rfl rfl (Nat.le_of_ble_eq_true rfl) ?_
      refine z_imul dX11_foretold_45 ?_
      refine z_istore_n (M := mX11_foretold) (lv2 := [(3, .int ((x1 * (64 : Int32)) * v6)), (0, .ref 0), (1, .int x1), (2, .int x2)]) dX11_foretold_46 (Nat.le_of_ble_eq_true rfl) rfl ?_
      refine z_iconst (M := mX11_foretold) (v := 0) dX11_foretold_47 rfl ?_
      refine z_aload_n dX11_foretold_48 1 rfl ?_
      refine y_getR (M := mX11_foretold) (r := 1) dX11_foretold_49 zk_0 flRX11_12 fr_9_0.1 (fr_9_0.2 _) ?_
      refine y_getR (M := mX11_foretold) (r := 2) dX11_foretold_52 zk_1 flRX11_62 fr_5_0.1 (fr_5_0.2 _) ?_
      refine y_getR (M := mX11_foretold) (r := 3) dX11_foretold_55 zk_2 flRX11_193 fr_1_4.1 (fr_1_4.2 _) ?_
      refine z_iload_n dX11_foretold_58 3 rfl ?_
      obtain ⟨hi7, h⟩ := oif h
      refine y_iald (M := mX11_foretold) (jj := x2.toNatClampNeg) dX11_foretold_59 zk_3 hi7 rfl ?_
      refine z_iload_n dX11_foretold_60 0 rfl ?_
      refine z_isub dX11_foretold_61 ?_
      refine y_mmax dX11_foretold_62 mlRX11_228 mw_mmax (Nat.le_trans (Nat.le_of_ble_eq_true rfl) hd0) (Nat.le_of_ble_eq_true rfl) ?_
      cases h
      exact z_iret dX11_foretold_65 rfl
    · replace h := oFn hc4 h
      refine z_iconst (M := mX11_foretold) (v := -1) dX11_foretold_24 rfl ?_
      cases h
      exact z_iret dX11_foretold_25 rfl
theorem ct_Fm_foretold {g : GG} {d : Nat} {x1 : Int32} {x2 : Int32} {ν : Nm} {r : Int32} (hd0 : 2 ≤ d)  (h : Fm_foretold ν x1 x2 = some r) : Ct g d mX11_foretold [.ref 0, .int x1, .int x2] (zem ν) (some (.int r), zem ν) := y_entry in_X11_foretold (Nat.le_of_ble_eq_true rfl) rfl (t_Fm_foretold hd0 x1 x2 r h)
-- FuseMinutes.out(I)I
theorem dX11_out_0 : decode cX11_out 0 = .ok (.aload_n 0, 1) := by decide +kernel
theorem dX11_out_1 : decode cX11_out 1 = .ok (.getfield 12, 3) := by decide +kernel
theorem dX11_out_4 : decode cX11_out 4 = .ok (.getfield 62, 3) := by decide +kernel
theorem dX11_out_7 : decode cX11_out 7 = .ok (.iload_n 1, 1) := by decide +kernel
theorem dX11_out_8 : decode cX11_out 8 = .ok (.invokevirtual 190, 3) := by decide +kernel
theorem dX11_out_11 : decode cX11_out 11 = .ok (.ifCond .ne 5, 3) := by decide +kernel
theorem dX11_out_14 : decode cX11_out 14 = .ok (.iconst (-1), 1) := by decide +kernel
theorem dX11_out_15 : decode cX11_out 15 = .ok (.ireturn, 1) := by decide +kernel
theorem dX11_out_16 : decode cX11_out 16 = .ok (.aload_n 0, 1) := by decide +kernel
theorem dX11_out_17 : decode cX11_out 17 = .ok (.getfield 12, 3) := by decide +kernel
theorem dX11_out_20 : decode cX11_out 20 = .ok (.getfield 62, 3) := by decide +kernel
theorem dX11_out_23 : decode cX11_out 23 = .ok (.getfield 193, 3) := by decide +kernel
theorem dX11_out_26 : decode cX11_out 26 = .ok (.iload_n 1, 1) := by decide +kernel
theorem dX11_out_27 : decode cX11_out 27 = .ok (.iaload, 1) := by decide +kernel
theorem dX11_out_28 : decode cX11_out 28 = .ok (.ifCond .ne 7, 3) := by decide +kernel
theorem dX11_out_31 : decode cX11_out 31 = .ok (.iconst 0, 1) := by decide +kernel
theorem dX11_out_32 : decode cX11_out 32 = .ok (.goto 14, 3) := by decide +kernel
theorem dX11_out_35 : decode cX11_out 35 = .ok (.aload_n 0, 1) := by decide +kernel
theorem dX11_out_36 : decode cX11_out 36 = .ok (.getfield 12, 3) := by decide +kernel
theorem dX11_out_39 : decode cX11_out 39 = .ok (.getfield 62, 3) := by decide +kernel
theorem dX11_out_42 : decode cX11_out 42 = .ok (.iload_n 1, 1) := by decide +kernel
theorem dX11_out_43 : decode cX11_out 43 = .ok (.invokevirtual 233, 3) := by decide +kernel
theorem dX11_out_46 : decode cX11_out 46 = .ok (.ireturn, 1) := by decide +kernel
def Fm_out (ν : Nm) (x1 : Int32) : Option Int32 :=
  (Pt_has ν 2 x1).bind fun v1 =>
  (if ¬ (b2i v1) = 0 then
    if inb x1 4 then
    (if ¬ (gi ν 3 x1.toNatClampNeg) = 0 then
      (Pt_sparksToOut ν 2 x1).bind fun v5 =>
      some v5
    else
      some (0 : Int32))
    else none
  else
    some (-1 : Int32))
set_option maxRecDepth 100000 in
set_option maxHeartbeats 4000000 in
theorem t_Fm_out {g : GG} {d : Nat} {ν : Nm} (hd0 : 3 ≤ d) : ∀ (x1 : Int32) (r : Int32), Fm_out ν x1 = some r → Z g d (0, 0) mX11_out 333 0 0 0 [(0, .ref 0), (1, .int x1)] [] (zem ν) (zF g (some (.int r), zem ν)) := by
  intro x1 r h
  unfold Fm_out at h
  refine z_aload_n dX11_out_0 0 rfl ?_
  refine y_getR (M := mX11_out) (r := 1) dX11_out_1 zk_0 flRX11_12 fr_9_0.1 (fr_9_0.2 _) ?_
  refine y_getR (M := mX11_out) (r := 2) dX11_out_4 zk_1 flRX11_62 fr_5_0.1 (fr_5_0.2 _) ?_
  refine z_iload_n dX11_out_7 1 rfl ?_
  obtain ⟨v1, he1, h⟩ := obind h
  refine y_Vi (M := mX11_out) (Y := mX2_has) (d2 := d - 1) (As := [.int x1]) (st := []) dX11_out_8 mlRX11_190 cv_X2_has zk_2 (ct_Pt_has (dle (Nat.le_of_ble_eq_true rfl) hd0) zk_2 he1) (dps (Nat.le_of_ble_eq_true rfl) hd0) rfl rfl (Nat.le_of_ble_eq_true rfl) ?_
  refine z_if_ne 16 dX11_out_11 rfl (fun hc2 => ?_) (fun hc2 => ?_)
  · replace h := oT hc2 h
    refine z_aload_n dX11_out_16 0 rfl ?_
    refine y_getR (M := mX11_out) (r := 1) dX11_out_17 zk_0 flRX11_12 fr_9_0.1 (fr_9_0.2 _) ?_
    refine y_getR (M := mX11_out) (r := 2) dX11_out_20 zk_1 flRX11_62 fr_5_0.1 (fr_5_0.2 _) ?_
    refine y_getR (M := mX11_out) (r := 3) dX11_out_23 zk_2 flRX11_193 fr_1_4.1 (fr_1_4.2 _) ?_
    refine z_iload_n dX11_out_26 1 rfl ?_
    obtain ⟨hi3, h⟩ := oif h
    refine y_iald (M := mX11_out) (jj := x1.toNatClampNeg) dX11_out_27 zk_3 hi3 rfl ?_
    refine z_if_ne 35 dX11_out_28 rfl (fun hc4 => ?_) (fun hc4 => ?_)
    · replace h := oT hc4 h
      refine z_aload_n dX11_out_35 0 rfl ?_
      refine y_getR (M := mX11_out) (r := 1) dX11_out_36 zk_0 flRX11_12 fr_9_0.1 (fr_9_0.2 _) ?_
      refine y_getR (M := mX11_out) (r := 2) dX11_out_39 zk_1 flRX11_62 fr_5_0.1 (fr_5_0.2 _) ?_
      refine z_iload_n dX11_out_42 1 rfl ?_
      obtain ⟨v5, he5, h⟩ := obind h
      refine y_Vi (M := mX11_out) (Y := mX2_sparksToOut) (d2 := d - 1) (As := [.int x1]) (st := []) dX11_out_43 mlRX11_233 cv_X2_sparksToOut zk_2 (ct_Pt_sparksToOut (dle (Nat.le_of_ble_eq_true rfl) hd0) zk_2 he5) (dps (Nat.le_of_ble_eq_true rfl) hd0) rfl rfl (Nat.le_of_ble_eq_true rfl) ?_
      cases h
      exact z_iret dX11_out_46 rfl
    · replace h := oFn hc4 h
      refine z_iconst (M := mX11_out) (v := 0) dX11_out_31 rfl ?_
      refine z_goto 46 dX11_out_32 rfl ?_
      cases h
      exact z_iret dX11_out_46 rfl
  · replace h := oFn hc2 h
    refine z_iconst (M := mX11_out) (v := -1) dX11_out_14 rfl ?_
    cases h
    exact z_iret dX11_out_15 rfl
theorem ct_Fm_out {g : GG} {d : Nat} {x1 : Int32} {ν : Nm} {r : Int32} (hd0 : 3 ≤ d)  (h : Fm_out ν x1 = some r) : Ct g d mX11_out [.ref 0, .int x1] (zem ν) (some (.int r), zem ν) := y_entry in_X11_out (Nat.le_of_ble_eq_true rfl) rfl (t_Fm_out hd0 x1 r h)
-- FuseMinutes.allCords()I
theorem dX11_allCords_0 : decode cX11_allCords 0 = .ok (.iconst 1, 1) := by decide +kernel
theorem dX11_allCords_1 : decode cX11_allCords 1 = .ok (.aload_n 0, 1) := by decide +kernel
theorem dX11_allCords_2 : decode cX11_allCords 2 = .ok (.getfield 12, 3) := by decide +kernel
theorem dX11_allCords_5 : decode cX11_allCords 5 = .ok (.getfield 62, 3) := by decide +kernel
theorem dX11_allCords_8 : decode cX11_allCords 8 = .ok (.getfield 66, 3) := by decide +kernel
theorem dX11_allCords_11 : decode cX11_allCords 11 = .ok (.ishl, 1) := by decide +kernel
theorem dX11_allCords_12 : decode cX11_allCords 12 = .ok (.iconst 1, 1) := by decide +kernel
theorem dX11_allCords_13 : decode cX11_allCords 13 = .ok (.isub, 1) := by decide +kernel
theorem dX11_allCords_14 : decode cX11_allCords 14 = .ok (.ireturn, 1) := by decide +kernel
def Fm_allCords (ν : Nm) : Option Int32 :=
  some (((1 : Int32) <<< ((gi ν 2 0) &&& 31)) - (1 : Int32))
set_option maxRecDepth 100000 in
set_option maxHeartbeats 4000000 in
theorem t_Fm_allCords {g : GG} {d : Nat} {ν : Nm} (hd0 : 1 ≤ d) : ∀ (r : Int32), Fm_allCords ν = some r → Z g d (0, 0) mX11_allCords 333 0 0 0 [(0, .ref 0)] [] (zem ν) (zF g (some (.int r), zem ν)) := by
  intro r h
  unfold Fm_allCords at h
  refine z_iconst (M := mX11_allCords) (v := 1) dX11_allCords_0 rfl ?_
  refine z_aload_n dX11_allCords_1 0 rfl ?_
  refine y_getR (M := mX11_allCords) (r := 1) dX11_allCords_2 zk_0 flRX11_12 fr_9_0.1 (fr_9_0.2 _) ?_
  refine y_getR (M := mX11_allCords) (r := 2) dX11_allCords_5 zk_1 flRX11_62 fr_5_0.1 (fr_5_0.2 _) ?_
  refine y_getI dX11_allCords_8 zk_2 flRX11_66 ?_
  refine z_ishl dX11_allCords_11 ?_
  refine z_iconst (M := mX11_allCords) (v := 1) dX11_allCords_12 rfl ?_
  refine z_isub dX11_allCords_13 ?_
  cases h
  exact z_iret dX11_allCords_14 rfl
theorem ct_Fm_allCords {g : GG} {d : Nat} {ν : Nm} {r : Int32} (hd0 : 1 ≤ d)  (h : Fm_allCords ν = some r) : Ct g d mX11_allCords [.ref 0] (zem ν) (some (.int r), zem ν) := y_entry in_X11_allCords (Nat.le_of_ble_eq_true rfl) rfl (t_Fm_allCords hd0 r h)
-- FuseMinutes.isSet(I)Z
theorem dX11_isSet_0 : decode cX11_isSet 0 = .ok (.iload_n 1, 1) := by decide +kernel
theorem dX11_isSet_1 : decode cX11_isSet 1 = .ok (.iconst 1, 1) := by decide +kernel
theorem dX11_isSet_2 : decode cX11_isSet 2 = .ok (.aload_n 0, 1) := by decide +kernel
theorem dX11_isSet_3 : decode cX11_isSet 3 = .ok (.invokevirtual 248, 3) := by decide +kernel
theorem dX11_isSet_6 : decode cX11_isSet 6 = .ok (.invokestatic 72, 3) := by decide +kernel
theorem dX11_isSet_9 : decode cX11_isSet 9 = .ok (.ireturn, 1) := by decide +kernel
def Fm_isSet (ν : Nm) (x1 : Int32) : Option Bool :=
  (Fm_allCords ν).bind fun v1 =>
  (Fm_within x1 (1 : Int32) v1).bind fun v2 =>
  some v2
set_option maxRecDepth 100000 in
set_option maxHeartbeats 4000000 in
theorem t_Fm_isSet {g : GG} {d : Nat} {ν : Nm} (hd0 : 2 ≤ d) : ∀ (x1 : Int32) (r : Bool), Fm_isSet ν x1 = some r → Z g d (0, 0) mX11_isSet 333 0 0 0 [(0, .ref 0), (1, .int x1)] [] (zem ν) (zF g (some (.int (b2i r)), zem ν)) := by
  intro x1 r h
  unfold Fm_isSet at h
  refine z_iload_n dX11_isSet_0 1 rfl ?_
  refine z_iconst (M := mX11_isSet) (v := 1) dX11_isSet_1 rfl ?_
  refine z_aload_n dX11_isSet_2 0 rfl ?_
  obtain ⟨v1, he1, h⟩ := obind h
  refine y_Vi (M := mX11_isSet) (Y := mX11_allCords) (d2 := d - 1) (As := []) (st := [.int (1 : Int32), .int x1]) dX11_isSet_3 mlRX11_248 cv_X11_allCords zk_0 (ct_Fm_allCords (dle (Nat.le_of_ble_eq_true rfl) hd0) he1) (dps (Nat.le_of_ble_eq_true rfl) hd0) rfl rfl (Nat.le_of_ble_eq_true rfl) ?_
  obtain ⟨v2, he2, h⟩ := obind h
  refine y_Si (M := mX11_isSet) (Y := mX11_within) (d2 := d - 1) (As := [.int x1, .int (1 : Int32), .int v1]) (st := []) dX11_isSet_6 mlRX11_72 cv_X11_within (ct_Fm_within (dle (Nat.le_of_ble_eq_true rfl) hd0) he2) (dps (Nat.le_of_ble_eq_true rfl) hd0) rfl rfl (Nat.le_of_ble_eq_true rfl) ?_
  cases h
  exact z_zret dX11_isSet_9 rfl (nar_b2i _)
theorem ct_Fm_isSet {g : GG} {d : Nat} {x1 : Int32} {ν : Nm} {r : Bool} (hd0 : 2 ≤ d)  (h : Fm_isSet ν x1 = some r) : Ct g d mX11_isSet [.ref 0, .int x1] (zem ν) (some (.int (b2i r)), zem ν) := y_entry in_X11_isSet (Nat.le_of_ble_eq_true rfl) rfl (t_Fm_isSet hd0 x1 r h)
-- FuseMinutes.spans(II)I
theorem dX11_spans_0 : decode cX11_spans 0 = .ok (.aload_n 0, 1) := by decide +kernel
theorem dX11_spans_1 : decode cX11_spans 1 = .ok (.iload_n 1, 1) := by decide +kernel
theorem dX11_spans_2 : decode cX11_spans 2 = .ok (.invokevirtual 236, 3) := by decide +kernel
theorem dX11_spans_5 : decode cX11_spans 5 = .ok (.ifCond .ne 6, 3) := by decide +kernel
theorem dX11_spans_8 : decode cX11_spans 8 = .ok (.bipush (-2), 2) := by decide +kernel
theorem dX11_spans_10 : decode cX11_spans 10 = .ok (.ireturn, 1) := by decide +kernel
theorem dX11_spans_11 : decode cX11_spans 11 = .ok (.iload_n 2, 1) := by decide +kernel
theorem dX11_spans_12 : decode cX11_spans 12 = .ok (.iconst (-1), 1) := by decide +kernel
theorem dX11_spans_13 : decode cX11_spans 13 = .ok (.if_icmp .ne 14, 3) := by decide +kernel
theorem dX11_spans_16 : decode cX11_spans 16 = .ok (.aload_n 0, 1) := by decide +kernel
theorem dX11_spans_17 : decode cX11_spans 17 = .ok (.getfield 50, 3) := by decide +kernel
theorem dX11_spans_20 : decode cX11_spans 20 = .ok (.iload_n 1, 1) := by decide +kernel
theorem dX11_spans_21 : decode cX11_spans 21 = .ok (.invokevirtual 239, 3) := by decide +kernel
theorem dX11_spans_24 : decode cX11_spans 24 = .ok (.goto 12, 3) := by decide +kernel
theorem dX11_spans_27 : decode cX11_spans 27 = .ok (.aload_n 0, 1) := by decide +kernel
theorem dX11_spans_28 : decode cX11_spans 28 = .ok (.getfield 50, 3) := by decide +kernel
theorem dX11_spans_31 : decode cX11_spans 31 = .ok (.iload_n 1, 1) := by decide +kernel
theorem dX11_spans_32 : decode cX11_spans 32 = .ok (.iload_n 2, 1) := by decide +kernel
theorem dX11_spans_33 : decode cX11_spans 33 = .ok (.invokevirtual 242, 3) := by decide +kernel
theorem dX11_spans_36 : decode cX11_spans 36 = .ok (.ireturn, 1) := by decide +kernel
def Fm_spans (x1 : Int32) (x2 : Int32) (ν : Nm) : Option (Int32 × Nm) :=
  (Fm_isSet ν x1).bind fun v1 =>
  (if ¬ (b2i v1) = 0 then
    (if ¬ x2 = (-1 : Int32) then
      (Rw_spanNumber x1 x2 ν).bind fun v4 =>
      some (v4.1, v4.2)
    else
      (Rw_countSpans x1 ν).bind fun v5 =>
      some (v5.1, v5.2))
  else
    some ((-2 : Int32), ν))
set_option maxRecDepth 100000 in
set_option maxHeartbeats 4000000 in
theorem t_Fm_spans {g : GG} {d : Nat} (hd0 : 206 ≤ d) : ∀ (x1 : Int32) (x2 : Int32) (ν : Nm) (r : (Int32 × Nm)), Fm_spans x1 x2 ν = some r → Z g d (0, 0) mX11_spans 333 0 0 0 [(0, .ref 0), (1, .int x1), (2, .int x2)] [] (zem ν) (zF g (some (.int r.1), zem r.2)) := by
  intro x1 x2 ν r h
  unfold Fm_spans at h
  refine z_aload_n dX11_spans_0 0 rfl ?_
  refine z_iload_n dX11_spans_1 1 rfl ?_
  obtain ⟨v1, he1, h⟩ := obind h
  refine y_Vi (M := mX11_spans) (Y := mX11_isSet) (d2 := d - 1) (As := [.int x1]) (st := []) dX11_spans_2 mlRX11_236 cv_X11_isSet zk_0 (ct_Fm_isSet (dle (Nat.le_of_ble_eq_true rfl) hd0) he1) (dps (Nat.le_of_ble_eq_true rfl) hd0) rfl rfl (Nat.le_of_ble_eq_true rfl) ?_
  refine z_if_ne 11 dX11_spans_5 rfl (fun hc2 => ?_) (fun hc2 => ?_)
  · replace h := oT hc2 h
    refine z_iload_n dX11_spans_11 2 rfl ?_
    refine z_iconst (M := mX11_spans) (v := -1) dX11_spans_12 rfl ?_
    refine z_icmp_ne 27 dX11_spans_13 rfl (fun hc3 => ?_) (fun hc3 => ?_)
    · replace h := oT hc3 h
      refine z_aload_n dX11_spans_27 0 rfl ?_
      refine y_getR (M := mX11_spans) (r := 276) dX11_spans_28 zk_0 flRX11_50 fr_9_5.1 (fr_9_5.2 _) ?_
      refine z_iload_n dX11_spans_31 1 rfl ?_
      refine z_iload_n dX11_spans_32 2 rfl ?_
      obtain ⟨v4, he4, h⟩ := obind h
      refine y_Vi (M := mX11_spans) (Y := mX4_spanNumber) (d2 := d - 1) (As := [.int x1, .int x2]) (st := []) dX11_spans_33 mlRX11_242 cv_X4_spanNumber zk_276 (ct_Rw_spanNumber (dle (Nat.le_of_ble_eq_true rfl) hd0) he4) (dps (Nat.le_of_ble_eq_true rfl) hd0) rfl rfl (Nat.le_of_ble_eq_true rfl) ?_
      cases h
      exact z_iret dX11_spans_36 rfl
    · replace h := oFn hc3 h
      refine z_aload_n dX11_spans_16 0 rfl ?_
      refine y_getR (M := mX11_spans) (r := 276) dX11_spans_17 zk_0 flRX11_50 fr_9_5.1 (fr_9_5.2 _) ?_
      refine z_iload_n dX11_spans_20 1 rfl ?_
      obtain ⟨v5, he5, h⟩ := obind h
      refine y_Vi (M := mX11_spans) (Y := mX4_countSpans) (d2 := d - 1) (As := [.int x1]) (st := []) dX11_spans_21 mlRX11_239 cv_X4_countSpans zk_276 (ct_Rw_countSpans (dle (Nat.le_of_ble_eq_true rfl) hd0) he5) (dps (Nat.le_of_ble_eq_true rfl) hd0) rfl rfl (Nat.le_of_ble_eq_true rfl) ?_
      refine z_goto 36 dX11_spans_24 rfl ?_
      cases h
      exact z_iret dX11_spans_36 rfl
  · replace h := oFn hc2 h
    refine z_bipush (M := mX11_spans) (v := -2) dX11_spans_8 rfl ?_
    cases h
    exact z_iret dX11_spans_10 rfl
theorem ct_Fm_spans {g : GG} {d : Nat} {x1 : Int32} {x2 : Int32} {ν : Nm} {r : (Int32 × Nm)} (hd0 : 206 ≤ d)  (h : Fm_spans x1 x2 ν = some r) : Ct g d mX11_spans [.ref 0, .int x1, .int x2] (zem ν) (some (.int r.1), zem r.2) := y_entry in_X11_spans (Nat.le_of_ble_eq_true rfl) rfl (t_Fm_spans hd0 x1 x2 ν r h)
-- FuseMinutes.can(II)Z
theorem dX11_can_0 : decode cX11_can 0 = .ok (.aload_n 0, 1) := by decide +kernel
theorem dX11_can_1 : decode cX11_can 1 = .ok (.iload_n 1, 1) := by decide +kernel
theorem dX11_can_2 : decode cX11_can 2 = .ok (.invokevirtual 236, 3) := by decide +kernel
theorem dX11_can_5 : decode cX11_can 5 = .ok (.ifCond .eq 19, 3) := by decide +kernel
theorem dX11_can_8 : decode cX11_can 8 = .ok (.aload_n 0, 1) := by decide +kernel
theorem dX11_can_9 : decode cX11_can 9 = .ok (.getfield 50, 3) := by decide +kernel
theorem dX11_can_12 : decode cX11_can 12 = .ok (.iload_n 1, 1) := by decide +kernel
theorem dX11_can_13 : decode cX11_can 13 = .ok (.iload_n 2, 1) := by decide +kernel
theorem dX11_can_14 : decode cX11_can 14 = .ok (.invokevirtual 245, 3) := by decide +kernel
theorem dX11_can_17 : decode cX11_can 17 = .ok (.ifCond .eq 7, 3) := by decide +kernel
theorem dX11_can_20 : decode cX11_can 20 = .ok (.iconst 1, 1) := by decide +kernel
theorem dX11_can_21 : decode cX11_can 21 = .ok (.goto 4, 3) := by decide +kernel
theorem dX11_can_24 : decode cX11_can 24 = .ok (.iconst 0, 1) := by decide +kernel
theorem dX11_can_25 : decode cX11_can 25 = .ok (.ireturn, 1) := by decide +kernel
def Fm_can (x1 : Int32) (x2 : Int32) (ν : Nm) : Option (Bool × Nm) :=
  (Fm_isSet ν x1).bind fun v1 =>
  (if (b2i v1) = 0 then
    some (false, ν)
  else
    (Rw_gives x1 x2 ν).bind fun v3 =>
    (if (b2i v3.1) = 0 then
      some (false, v3.2)
    else
      some (true, v3.2)))
set_option maxRecDepth 100000 in
set_option maxHeartbeats 4000000 in
theorem t_Fm_can {g : GG} {d : Nat} (hd0 : 206 ≤ d) : ∀ (x1 : Int32) (x2 : Int32) (ν : Nm) (r : (Bool × Nm)), Fm_can x1 x2 ν = some r → Z g d (0, 0) mX11_can 333 0 0 0 [(0, .ref 0), (1, .int x1), (2, .int x2)] [] (zem ν) (zF g (some (.int (b2i r.1)), zem r.2)) := by
  intro x1 x2 ν r h
  unfold Fm_can at h
  refine z_aload_n dX11_can_0 0 rfl ?_
  refine z_iload_n dX11_can_1 1 rfl ?_
  obtain ⟨v1, he1, h⟩ := obind h
  refine y_Vi (M := mX11_can) (Y := mX11_isSet) (d2 := d - 1) (As := [.int x1]) (st := []) dX11_can_2 mlRX11_236 cv_X11_isSet zk_0 (ct_Fm_isSet (dle (Nat.le_of_ble_eq_true rfl) hd0) he1) (dps (Nat.le_of_ble_eq_true rfl) hd0) rfl rfl (Nat.le_of_ble_eq_true rfl) ?_
  refine z_if_eq 24 dX11_can_5 rfl (fun hc2 => ?_) (fun hc2 => ?_)
  · replace h := oT hc2 h
    refine z_iconst (M := mX11_can) (v := 0) dX11_can_24 rfl ?_
    cases h
    exact z_zret dX11_can_25 rfl rfl
  · replace h := oF hc2 h
    refine z_aload_n dX11_can_8 0 rfl ?_
    refine y_getR (M := mX11_can) (r := 276) dX11_can_9 zk_0 flRX11_50 fr_9_5.1 (fr_9_5.2 _) ?_
    refine z_iload_n dX11_can_12 1 rfl ?_
    refine z_iload_n dX11_can_13 2 rfl ?_
    obtain ⟨v3, he3, h⟩ := obind h
    refine y_Vi (M := mX11_can) (Y := mX4_gives) (d2 := d - 1) (As := [.int x1, .int x2]) (st := []) dX11_can_14 mlRX11_245 cv_X4_gives zk_276 (ct_Rw_gives (dle (Nat.le_of_ble_eq_true rfl) hd0) he3) (dps (Nat.le_of_ble_eq_true rfl) hd0) rfl rfl (Nat.le_of_ble_eq_true rfl) ?_
    refine z_if_eq 24 dX11_can_17 rfl (fun hc4 => ?_) (fun hc4 => ?_)
    · replace h := oT hc4 h
      refine z_iconst (M := mX11_can) (v := 0) dX11_can_24 rfl ?_
      cases h
      exact z_zret dX11_can_25 rfl rfl
    · replace h := oF hc4 h
      refine z_iconst (M := mX11_can) (v := 1) dX11_can_20 rfl ?_
      refine z_goto 25 dX11_can_21 rfl ?_
      cases h
      exact z_zret dX11_can_25 rfl rfl
theorem ct_Fm_can {g : GG} {d : Nat} {x1 : Int32} {x2 : Int32} {ν : Nm} {r : (Bool × Nm)} (hd0 : 206 ≤ d)  (h : Fm_can x1 x2 ν = some r) : Ct g d mX11_can [.ref 0, .int x1, .int x2] (zem ν) (some (.int (b2i r.1)), zem r.2) := y_entry in_X11_can (Nat.le_of_ble_eq_true rfl) rfl (t_Fm_can hd0 x1 x2 ν r h)
-- FuseMinutes.fewest(I)I
theorem dX11_fewest_0 : decode cX11_fewest 0 = .ok (.iconst (-1), 1) := by decide +kernel
theorem dX11_fewest_1 : decode cX11_fewest 1 = .ok (.istore_n 2, 1) := by decide +kernel
theorem dX11_fewest_2 : decode cX11_fewest 2 = .ok (.iconst 1, 1) := by decide +kernel
theorem dX11_fewest_3 : decode cX11_fewest 3 = .ok (.istore_n 3, 1) := by decide +kernel
theorem dX11_fewest_4 : decode cX11_fewest 4 = .ok (.iload_n 3, 1) := by decide +kernel
theorem dX11_fewest_5 : decode cX11_fewest 5 = .ok (.aload_n 0, 1) := by decide +kernel
theorem dX11_fewest_6 : decode cX11_fewest 6 = .ok (.invokevirtual 248, 3) := by decide +kernel
theorem dX11_fewest_9 : decode cX11_fewest 9 = .ok (.if_icmp .gt 51, 3) := by decide +kernel
theorem dX11_fewest_12 : decode cX11_fewest 12 = .ok (.iload_n 2, 1) := by decide +kernel
theorem dX11_fewest_13 : decode cX11_fewest 13 = .ok (.iconst (-1), 1) := by decide +kernel
theorem dX11_fewest_14 : decode cX11_fewest 14 = .ok (.if_icmp .eq 14, 3) := by decide +kernel
theorem dX11_fewest_17 : decode cX11_fewest 17 = .ok (.iload_n 3, 1) := by decide +kernel
theorem dX11_fewest_18 : decode cX11_fewest 18 = .ok (.invokestatic 223, 3) := by decide +kernel
theorem dX11_fewest_21 : decode cX11_fewest 21 = .ok (.iload_n 2, 1) := by decide +kernel
theorem dX11_fewest_22 : decode cX11_fewest 22 = .ok (.invokestatic 223, 3) := by decide +kernel
theorem dX11_fewest_25 : decode cX11_fewest 25 = .ok (.if_icmp .ge 7, 3) := by decide +kernel
theorem dX11_fewest_28 : decode cX11_fewest 28 = .ok (.iconst 1, 1) := by decide +kernel
theorem dX11_fewest_29 : decode cX11_fewest 29 = .ok (.goto 4, 3) := by decide +kernel
theorem dX11_fewest_32 : decode cX11_fewest 32 = .ok (.iconst 0, 1) := by decide +kernel
theorem dX11_fewest_33 : decode cX11_fewest 33 = .ok (.istore 4, 2) := by decide +kernel
theorem dX11_fewest_35 : decode cX11_fewest 35 = .ok (.iload 4, 2) := by decide +kernel
theorem dX11_fewest_37 : decode cX11_fewest 37 = .ok (.ifCond .eq 17, 3) := by decide +kernel
theorem dX11_fewest_40 : decode cX11_fewest 40 = .ok (.aload_n 0, 1) := by decide +kernel
theorem dX11_fewest_41 : decode cX11_fewest 41 = .ok (.getfield 50, 3) := by decide +kernel
theorem dX11_fewest_44 : decode cX11_fewest 44 = .ok (.iload_n 3, 1) := by decide +kernel
theorem dX11_fewest_45 : decode cX11_fewest 45 = .ok (.iload_n 1, 1) := by decide +kernel
theorem dX11_fewest_46 : decode cX11_fewest 46 = .ok (.invokevirtual 245, 3) := by decide +kernel
theorem dX11_fewest_49 : decode cX11_fewest 49 = .ok (.ifCond .eq 5, 3) := by decide +kernel
theorem dX11_fewest_52 : decode cX11_fewest 52 = .ok (.iload_n 3, 1) := by decide +kernel
theorem dX11_fewest_53 : decode cX11_fewest 53 = .ok (.istore_n 2, 1) := by decide +kernel
theorem dX11_fewest_54 : decode cX11_fewest 54 = .ok (.iinc 3 1, 3) := by decide +kernel
theorem dX11_fewest_57 : decode cX11_fewest 57 = .ok (.goto (-53), 3) := by decide +kernel
theorem dX11_fewest_60 : decode cX11_fewest 60 = .ok (.iload_n 2, 1) := by decide +kernel
theorem dX11_fewest_61 : decode cX11_fewest 61 = .ok (.ireturn, 1) := by decide +kernel
def Fm_fewest_54 (k4 : Int32 → Int32 → Int32 → Nm → Option (Int32 × Nm)) (x1 : Int32) (x2 : Int32) (x3 : Int32) (ν : Nm) : Option (Int32 × Nm) :=
  k4 x1 x2 (x3 + (1 : Int32)) ν
set_option maxRecDepth 100000 in
set_option maxHeartbeats 4000000 in
theorem t_Fm_fewest_54 {g : GG} {d : Nat} (hd0 : 206 ≤ d) {k4 : Int32 → Int32 → Int32 → Nm → Option (Int32 × Nm)} (hk4 : ∀ (x1 : Int32) (x2 : Int32) (x3 : Int32) (ν : Nm) (r : (Int32 × Nm)), k4 x1 x2 x3 ν = some r → Z g d (0, 0) mX11_fewest 333 0 0 4 [(0, .ref 0), (1, .int x1), (2, .int x2), (3, .int x3)] [] (zem ν) (zF g (some (.int r.1), zem r.2))) : ∀ (x1 : Int32) (x2 : Int32) (x3 : Int32) (ν : Nm) (r : (Int32 × Nm)), Fm_fewest_54 k4 x1 x2 x3 ν = some r → Z g d (0, 0) mX11_fewest 333 0 0 54 [(0, .ref 0), (1, .int x1), (2, .int x2), (3, .int x3)] [] (zem ν) (zF g (some (.int r.1), zem r.2)) := by
  intro x1 x2 x3 ν r h
  unfold Fm_fewest_54 at h
  refine z_iinc (M := mX11_fewest) (v := (x3 + (1 : Int32))) (lv2 := [(3, .int (x3 + (1 : Int32))), (0, .ref 0), (1, .int x1), (2, .int x2)]) dX11_fewest_54 3 rfl rfl (Nat.le_of_ble_eq_true rfl) rfl ?_
  refine z_goto 4 dX11_fewest_57 rfl ?_
  refine z_lv (lv2 := [(0, .ref 0), (1, .int x1), (2, .int x2), (3, .int (x3 + (1 : Int32)))]) [1, 2, 3, 0] rfl ?_
  exact hk4 x1 x2 (x3 + (1 : Int32)) ν _ h
def Fm_fewest_33 (k4 : Int32 → Int32 → Int32 → Nm → Option (Int32 × Nm)) (x1 : Int32) (x2 : Int32) (x3 : Int32) (s0 : Int32) (ν : Nm) : Option (Int32 × Nm) :=
  (if s0 = 0 then
    Fm_fewest_54 k4 x1 x2 x3 ν
  else
    (Rw_gives x3 x1 ν).bind fun v2 =>
    (if (b2i v2.1) = 0 then
      Fm_fewest_54 k4 x1 x2 x3 v2.2
    else
      Fm_fewest_54 k4 x1 x3 x3 v2.2))
set_option maxRecDepth 100000 in
set_option maxHeartbeats 4000000 in
theorem t_Fm_fewest_33 {g : GG} {d : Nat} (hd0 : 206 ≤ d) {k4 : Int32 → Int32 → Int32 → Nm → Option (Int32 × Nm)} (hk4 : ∀ (x1 : Int32) (x2 : Int32) (x3 : Int32) (ν : Nm) (r : (Int32 × Nm)), k4 x1 x2 x3 ν = some r → Z g d (0, 0) mX11_fewest 333 0 0 4 [(0, .ref 0), (1, .int x1), (2, .int x2), (3, .int x3)] [] (zem ν) (zF g (some (.int r.1), zem r.2))) : ∀ (x1 : Int32) (x2 : Int32) (x3 : Int32) (s0 : Int32) (ν : Nm) (r : (Int32 × Nm)), Fm_fewest_33 k4 x1 x2 x3 s0 ν = some r → Z g d (0, 0) mX11_fewest 333 0 0 33 [(0, .ref 0), (1, .int x1), (2, .int x2), (3, .int x3)] [.int s0] (zem ν) (zF g (some (.int r.1), zem r.2)) := by
  intro x1 x2 x3 s0 ν r h
  unfold Fm_fewest_33 at h
  refine z_istore (M := mX11_fewest) (lv2 := [(4, .int s0), (0, .ref 0), (1, .int x1), (2, .int x2), (3, .int x3)]) dX11_fewest_33 (Nat.le_of_ble_eq_true rfl) rfl ?_
  refine z_iload dX11_fewest_35 0 rfl ?_
  refine z_if_eq 54 dX11_fewest_37 rfl (fun hc1 => ?_) (fun hc1 => ?_)
  · replace h := oT hc1 h
    refine z_lv (lv2 := [(0, .ref 0), (1, .int x1), (2, .int x2), (3, .int x3)]) [1, 2, 3, 4] rfl ?_
    exact t_Fm_fewest_54 hd0 hk4 x1 x2 x3 ν _ h
  · replace h := oF hc1 h
    refine z_aload_n dX11_fewest_40 1 rfl ?_
    refine y_getR (M := mX11_fewest) (r := 276) dX11_fewest_41 zk_0 flRX11_50 fr_9_5.1 (fr_9_5.2 _) ?_
    refine z_iload_n dX11_fewest_44 4 rfl ?_
    refine z_iload_n dX11_fewest_45 2 rfl ?_
    obtain ⟨v2, he2, h⟩ := obind h
    refine y_Vi (M := mX11_fewest) (Y := mX4_gives) (d2 := d - 1) (As := [.int x3, .int x1]) (st := []) dX11_fewest_46 mlRX11_245 cv_X4_gives zk_276 (ct_Rw_gives (dle (Nat.le_of_ble_eq_true rfl) hd0) he2) (dps (Nat.le_of_ble_eq_true rfl) hd0) rfl rfl (Nat.le_of_ble_eq_true rfl) ?_
    refine z_if_eq 54 dX11_fewest_49 rfl (fun hc3 => ?_) (fun hc3 => ?_)
    · replace h := oT hc3 h
      refine z_lv (lv2 := [(0, .ref 0), (1, .int x1), (2, .int x2), (3, .int x3)]) [1, 2, 3, 4] rfl ?_
      exact t_Fm_fewest_54 hd0 hk4 x1 x2 x3 v2.2 _ h
    · replace h := oF hc3 h
      refine z_iload_n dX11_fewest_52 4 rfl ?_
      refine z_istore_n (M := mX11_fewest) (lv2 := [(2, .int x3), (4, .int s0), (0, .ref 0), (1, .int x1), (3, .int x3)]) dX11_fewest_53 (Nat.le_of_ble_eq_true rfl) rfl ?_
      refine z_lv (lv2 := [(0, .ref 0), (1, .int x1), (2, .int x3), (3, .int x3)]) [2, 3, 0, 4] rfl ?_
      exact t_Fm_fewest_54 hd0 hk4 x1 x3 x3 v2.2 _ h
def Fm_fewest_28 (k4 : Int32 → Int32 → Int32 → Nm → Option (Int32 × Nm)) (x1 : Int32) (x2 : Int32) (x3 : Int32) (ν : Nm) : Option (Int32 × Nm) :=
  Fm_fewest_33 k4 x1 x2 x3 (1 : Int32) ν
set_option maxRecDepth 100000 in
set_option maxHeartbeats 4000000 in
theorem t_Fm_fewest_28 {g : GG} {d : Nat} (hd0 : 206 ≤ d) {k4 : Int32 → Int32 → Int32 → Nm → Option (Int32 × Nm)} (hk4 : ∀ (x1 : Int32) (x2 : Int32) (x3 : Int32) (ν : Nm) (r : (Int32 × Nm)), k4 x1 x2 x3 ν = some r → Z g d (0, 0) mX11_fewest 333 0 0 4 [(0, .ref 0), (1, .int x1), (2, .int x2), (3, .int x3)] [] (zem ν) (zF g (some (.int r.1), zem r.2))) : ∀ (x1 : Int32) (x2 : Int32) (x3 : Int32) (ν : Nm) (r : (Int32 × Nm)), Fm_fewest_28 k4 x1 x2 x3 ν = some r → Z g d (0, 0) mX11_fewest 333 0 0 28 [(0, .ref 0), (1, .int x1), (2, .int x2), (3, .int x3)] [] (zem ν) (zF g (some (.int r.1), zem r.2)) := by
  intro x1 x2 x3 ν r h
  unfold Fm_fewest_28 at h
  refine z_iconst (M := mX11_fewest) (v := 1) dX11_fewest_28 rfl ?_
  refine z_goto 33 dX11_fewest_29 rfl ?_
  exact t_Fm_fewest_33 hd0 hk4 x1 x2 x3 (1 : Int32) ν _ h
def Fm_fewest_4 : Nat → Int32 → Int32 → Int32 → Nm → Option (Int32 × Nm)
  | 0, _, _, _, _ => none
  | f + 1, x1, x2, x3, ν =>
    (Fm_allCords ν).bind fun v1 =>
    (if v1 < x3 then
      some (x2, ν)
    else
      (if x2 = (-1 : Int32) then
        Fm_fewest_28 (Fm_fewest_4 f) x1 x2 x3 ν
      else
        (In_bitCount x3).bind fun v4 =>
        (In_bitCount x2).bind fun v5 =>
        (if v5 ≤ v4 then
          Fm_fewest_33 (Fm_fewest_4 f) x1 x2 x3 (0 : Int32) ν
        else
          Fm_fewest_28 (Fm_fewest_4 f) x1 x2 x3 ν)))
set_option maxRecDepth 100000 in
set_option maxHeartbeats 4000000 in
theorem t_Fm_fewest_4 {g : GG} {d : Nat} (hd0 : 206 ≤ d) : ∀ (f : Nat), ∀ (x1 : Int32) (x2 : Int32) (x3 : Int32) (ν : Nm) (r : (Int32 × Nm)), Fm_fewest_4 f x1 x2 x3 ν = some r → Z g d (0, 0) mX11_fewest 333 0 0 4 [(0, .ref 0), (1, .int x1), (2, .int x2), (3, .int x3)] [] (zem ν) (zF g (some (.int r.1), zem r.2)) := by
  intro f
  induction f with
  | zero =>
    intro x1 x2 x3 ν r h
    cases h
  | succ f ih =>
    intro x1 x2 x3 ν r h
    rw [Fm_fewest_4] at h
    refine z_iload_n dX11_fewest_4 3 rfl ?_
    refine z_aload_n dX11_fewest_5 0 rfl ?_
    obtain ⟨v1, he1, h⟩ := obind h
    refine y_Vi (M := mX11_fewest) (Y := mX11_allCords) (d2 := d - 1) (As := []) (st := [.int x3]) dX11_fewest_6 mlRX11_248 cv_X11_allCords zk_0 (ct_Fm_allCords (dle (Nat.le_of_ble_eq_true rfl) hd0) he1) (dps (Nat.le_of_ble_eq_true rfl) hd0) rfl rfl (Nat.le_of_ble_eq_true rfl) ?_
    refine z_icmp_gt 60 dX11_fewest_9 rfl (fun hc2 => ?_) (fun hc2 => ?_)
    · replace h := oT hc2 h
      refine z_iload_n dX11_fewest_60 2 rfl ?_
      cases h
      exact z_iret dX11_fewest_61 rfl
    · replace h := oF hc2 h
      refine z_iload_n dX11_fewest_12 2 rfl ?_
      refine z_iconst (M := mX11_fewest) (v := -1) dX11_fewest_13 rfl ?_
      refine z_icmp_eq 28 dX11_fewest_14 rfl (fun hc3 => ?_) (fun hc3 => ?_)
      · replace h := oT hc3 h
        exact t_Fm_fewest_28 hd0 ih x1 x2 x3 ν _ h
      · replace h := oF hc3 h
        refine z_iload_n dX11_fewest_17 3 rfl ?_
        obtain ⟨v4, he4, h⟩ := obind h
        refine y_Si (M := mX11_fewest) (Y := mJ6_bitCount_0f7a4) (d2 := d - 1) (As := [.int x3]) (st := []) dX11_fewest_18 mlRX11_223 cv_J6_bitCount_0f7a4 (ct_In_bitCount (dle (Nat.le_of_ble_eq_true rfl) hd0) he4) (dps (Nat.le_of_ble_eq_true rfl) hd0) rfl rfl (Nat.le_of_ble_eq_true rfl) ?_
        refine z_iload_n dX11_fewest_21 2 rfl ?_
        obtain ⟨v5, he5, h⟩ := obind h
        refine y_Si (M := mX11_fewest) (Y := mJ6_bitCount_0f7a4) (d2 := d - 1) (As := [.int x2]) (st := [.int v4]) dX11_fewest_22 mlRX11_223 cv_J6_bitCount_0f7a4 (ct_In_bitCount (dle (Nat.le_of_ble_eq_true rfl) hd0) he5) (dps (Nat.le_of_ble_eq_true rfl) hd0) rfl rfl (Nat.le_of_ble_eq_true rfl) ?_
        refine z_icmp_ge 32 dX11_fewest_25 rfl (fun hc6 => ?_) (fun hc6 => ?_)
        · replace h := oT hc6 h
          refine z_iconst (M := mX11_fewest) (v := 0) dX11_fewest_32 rfl ?_
          exact t_Fm_fewest_33 hd0 ih x1 x2 x3 (0 : Int32) ν _ h
        · replace h := oF hc6 h
          exact t_Fm_fewest_28 hd0 ih x1 x2 x3 ν _ h
def Fm_fewest (x1 : Int32) (ν : Nm) : Option (Int32 × Nm) :=
  Fm_fewest_4 FU x1 (-1 : Int32) (1 : Int32) ν
set_option maxRecDepth 100000 in
set_option maxHeartbeats 4000000 in
theorem t_Fm_fewest {g : GG} {d : Nat} (hd0 : 206 ≤ d) : ∀ (x1 : Int32) (ν : Nm) (r : (Int32 × Nm)), Fm_fewest x1 ν = some r → Z g d (0, 0) mX11_fewest 333 0 0 0 [(0, .ref 0), (1, .int x1)] [] (zem ν) (zF g (some (.int r.1), zem r.2)) := by
  intro x1 ν r h
  unfold Fm_fewest at h
  refine z_iconst (M := mX11_fewest) (v := -1) dX11_fewest_0 rfl ?_
  refine z_istore_n (M := mX11_fewest) (lv2 := [(2, .int (-1 : Int32)), (0, .ref 0), (1, .int x1)]) dX11_fewest_1 (Nat.le_of_ble_eq_true rfl) rfl ?_
  refine z_iconst (M := mX11_fewest) (v := 1) dX11_fewest_2 rfl ?_
  refine z_istore_n (M := mX11_fewest) (lv2 := [(3, .int (1 : Int32)), (2, .int (-1 : Int32)), (0, .ref 0), (1, .int x1)]) dX11_fewest_3 (Nat.le_of_ble_eq_true rfl) rfl ?_
  refine z_lv (lv2 := [(0, .ref 0), (1, .int x1), (2, .int (-1 : Int32)), (3, .int (1 : Int32))]) [2, 3, 1, 0] rfl ?_
  exact t_Fm_fewest_4 hd0 FU x1 (-1 : Int32) (1 : Int32) ν _ h
theorem ct_Fm_fewest {g : GG} {d : Nat} {x1 : Int32} {ν : Nm} {r : (Int32 × Nm)} (hd0 : 206 ≤ d)  (h : Fm_fewest x1 ν = some r) : Ct g d mX11_fewest [.ref 0, .int x1] (zem ν) (some (.int r.1), zem r.2) := y_entry in_X11_fewest (Nat.le_of_ble_eq_true rfl) rfl (t_Fm_fewest hd0 x1 ν r h)
-- FuseMinutes.cheapest(I)I
theorem dX11_cheapest_0 : decode cX11_cheapest 0 = .ok (.iconst (-1), 1) := by decide +kernel
theorem dX11_cheapest_1 : decode cX11_cheapest 1 = .ok (.istore_n 2, 1) := by decide +kernel
theorem dX11_cheapest_2 : decode cX11_cheapest 2 = .ok (.iconst 0, 1) := by decide +kernel
theorem dX11_cheapest_3 : decode cX11_cheapest 3 = .ok (.istore_n 3, 1) := by decide +kernel
theorem dX11_cheapest_4 : decode cX11_cheapest 4 = .ok (.iconst 1, 1) := by decide +kernel
theorem dX11_cheapest_5 : decode cX11_cheapest 5 = .ok (.istore 4, 2) := by decide +kernel
theorem dX11_cheapest_7 : decode cX11_cheapest 7 = .ok (.iload 4, 2) := by decide +kernel
theorem dX11_cheapest_9 : decode cX11_cheapest 9 = .ok (.aload_n 0, 1) := by decide +kernel
theorem dX11_cheapest_10 : decode cX11_cheapest 10 = .ok (.invokevirtual 248, 3) := by decide +kernel
theorem dX11_cheapest_13 : decode cX11_cheapest 13 = .ok (.if_icmp .gt 58, 3) := by decide +kernel
theorem dX11_cheapest_16 : decode cX11_cheapest 16 = .ok (.aload_n 0, 1) := by decide +kernel
theorem dX11_cheapest_17 : decode cX11_cheapest 17 = .ok (.getfield 12, 3) := by decide +kernel
theorem dX11_cheapest_20 : decode cX11_cheapest 20 = .ok (.iload 4, 2) := by decide +kernel
theorem dX11_cheapest_22 : decode cX11_cheapest 22 = .ok (.invokevirtual 251, 3) := by decide +kernel
theorem dX11_cheapest_25 : decode cX11_cheapest 25 = .ok (.iconst 5, 1) := by decide +kernel
theorem dX11_cheapest_26 : decode cX11_cheapest 26 = .ok (.imul, 1) := by decide +kernel
theorem dX11_cheapest_27 : decode cX11_cheapest 27 = .ok (.iload 4, 2) := by decide +kernel
theorem dX11_cheapest_29 : decode cX11_cheapest 29 = .ok (.invokestatic 223, 3) := by decide +kernel
theorem dX11_cheapest_32 : decode cX11_cheapest 32 = .ok (.iadd, 1) := by decide +kernel
theorem dX11_cheapest_33 : decode cX11_cheapest 33 = .ok (.istore 5, 2) := by decide +kernel
theorem dX11_cheapest_35 : decode cX11_cheapest 35 = .ok (.iload_n 2, 1) := by decide +kernel
theorem dX11_cheapest_36 : decode cX11_cheapest 36 = .ok (.iconst (-1), 1) := by decide +kernel
theorem dX11_cheapest_37 : decode cX11_cheapest 37 = .ok (.if_icmp .eq 9, 3) := by decide +kernel
theorem dX11_cheapest_40 : decode cX11_cheapest 40 = .ok (.iload 5, 2) := by decide +kernel
theorem dX11_cheapest_42 : decode cX11_cheapest 42 = .ok (.iload_n 3, 1) := by decide +kernel
theorem dX11_cheapest_43 : decode cX11_cheapest 43 = .ok (.if_icmp .ge 22, 3) := by decide +kernel
theorem dX11_cheapest_46 : decode cX11_cheapest 46 = .ok (.aload_n 0, 1) := by decide +kernel
theorem dX11_cheapest_47 : decode cX11_cheapest 47 = .ok (.getfield 50, 3) := by decide +kernel
theorem dX11_cheapest_50 : decode cX11_cheapest 50 = .ok (.iload 4, 2) := by decide +kernel
theorem dX11_cheapest_52 : decode cX11_cheapest 52 = .ok (.iload_n 1, 1) := by decide +kernel
theorem dX11_cheapest_53 : decode cX11_cheapest 53 = .ok (.invokevirtual 245, 3) := by decide +kernel
theorem dX11_cheapest_56 : decode cX11_cheapest 56 = .ok (.ifCond .eq 9, 3) := by decide +kernel
theorem dX11_cheapest_59 : decode cX11_cheapest 59 = .ok (.iload 4, 2) := by decide +kernel
theorem dX11_cheapest_61 : decode cX11_cheapest 61 = .ok (.istore_n 2, 1) := by decide +kernel
theorem dX11_cheapest_62 : decode cX11_cheapest 62 = .ok (.iload 5, 2) := by decide +kernel
theorem dX11_cheapest_64 : decode cX11_cheapest 64 = .ok (.istore_n 3, 1) := by decide +kernel
theorem dX11_cheapest_65 : decode cX11_cheapest 65 = .ok (.iinc 4 1, 3) := by decide +kernel
theorem dX11_cheapest_68 : decode cX11_cheapest 68 = .ok (.goto (-61), 3) := by decide +kernel
theorem dX11_cheapest_71 : decode cX11_cheapest 71 = .ok (.iload_n 2, 1) := by decide +kernel
theorem dX11_cheapest_72 : decode cX11_cheapest 72 = .ok (.ireturn, 1) := by decide +kernel
def Fm_cheapest_65 (k7 : Int32 → Int32 → Int32 → Int32 → Nm → Option (Int32 × Nm)) (x1 : Int32) (x2 : Int32) (x3 : Int32) (x4 : Int32) (ν : Nm) : Option (Int32 × Nm) :=
  k7 x1 x2 x3 (x4 + (1 : Int32)) ν
set_option maxRecDepth 100000 in
set_option maxHeartbeats 4000000 in
theorem t_Fm_cheapest_65 {g : GG} {d : Nat} (hd0 : 206 ≤ d) {k7 : Int32 → Int32 → Int32 → Int32 → Nm → Option (Int32 × Nm)} (hk7 : ∀ (x1 : Int32) (x2 : Int32) (x3 : Int32) (x4 : Int32) (ν : Nm) (r : (Int32 × Nm)), k7 x1 x2 x3 x4 ν = some r → Z g d (0, 0) mX11_cheapest 333 0 0 7 [(0, .ref 0), (1, .int x1), (2, .int x2), (3, .int x3), (4, .int x4)] [] (zem ν) (zF g (some (.int r.1), zem r.2))) : ∀ (x1 : Int32) (x2 : Int32) (x3 : Int32) (x4 : Int32) (ν : Nm) (r : (Int32 × Nm)), Fm_cheapest_65 k7 x1 x2 x3 x4 ν = some r → Z g d (0, 0) mX11_cheapest 333 0 0 65 [(0, .ref 0), (1, .int x1), (2, .int x2), (3, .int x3), (4, .int x4)] [] (zem ν) (zF g (some (.int r.1), zem r.2)) := by
  intro x1 x2 x3 x4 ν r h
  unfold Fm_cheapest_65 at h
  refine z_iinc (M := mX11_cheapest) (v := (x4 + (1 : Int32))) (lv2 := [(4, .int (x4 + (1 : Int32))), (0, .ref 0), (1, .int x1), (2, .int x2), (3, .int x3)]) dX11_cheapest_65 4 rfl rfl (Nat.le_of_ble_eq_true rfl) rfl ?_
  refine z_goto 7 dX11_cheapest_68 rfl ?_
  refine z_lv (lv2 := [(0, .ref 0), (1, .int x1), (2, .int x2), (3, .int x3), (4, .int (x4 + (1 : Int32)))]) [1, 2, 3, 4, 0] rfl ?_
  exact hk7 x1 x2 x3 (x4 + (1 : Int32)) ν _ h
def Fm_cheapest_46 (k7 : Int32 → Int32 → Int32 → Int32 → Nm → Option (Int32 × Nm)) (x1 : Int32) (x2 : Int32) (x3 : Int32) (x4 : Int32) (x5 : Int32) (ν : Nm) : Option (Int32 × Nm) :=
  (Rw_gives x4 x1 ν).bind fun v1 =>
  (if (b2i v1.1) = 0 then
    Fm_cheapest_65 k7 x1 x2 x3 x4 v1.2
  else
    Fm_cheapest_65 k7 x1 x4 x5 x4 v1.2)
set_option maxRecDepth 100000 in
set_option maxHeartbeats 4000000 in
theorem t_Fm_cheapest_46 {g : GG} {d : Nat} (hd0 : 206 ≤ d) {k7 : Int32 → Int32 → Int32 → Int32 → Nm → Option (Int32 × Nm)} (hk7 : ∀ (x1 : Int32) (x2 : Int32) (x3 : Int32) (x4 : Int32) (ν : Nm) (r : (Int32 × Nm)), k7 x1 x2 x3 x4 ν = some r → Z g d (0, 0) mX11_cheapest 333 0 0 7 [(0, .ref 0), (1, .int x1), (2, .int x2), (3, .int x3), (4, .int x4)] [] (zem ν) (zF g (some (.int r.1), zem r.2))) : ∀ (x1 : Int32) (x2 : Int32) (x3 : Int32) (x4 : Int32) (x5 : Int32) (ν : Nm) (r : (Int32 × Nm)), Fm_cheapest_46 k7 x1 x2 x3 x4 x5 ν = some r → Z g d (0, 0) mX11_cheapest 333 0 0 46 [(0, .ref 0), (1, .int x1), (2, .int x2), (3, .int x3), (4, .int x4), (5, .int x5)] [] (zem ν) (zF g (some (.int r.1), zem r.2)) := by
  intro x1 x2 x3 x4 x5 ν r h
  unfold Fm_cheapest_46 at h
  refine z_aload_n dX11_cheapest_46 0 rfl ?_
  refine y_getR (M := mX11_cheapest) (r := 276) dX11_cheapest_47 zk_0 flRX11_50 fr_9_5.1 (fr_9_5.2 _) ?_
  refine z_iload dX11_cheapest_50 4 rfl ?_
  refine z_iload_n dX11_cheapest_52 1 rfl ?_
  obtain ⟨v1, he1, h⟩ := obind h
  refine y_Vi (M := mX11_cheapest) (Y := mX4_gives) (d2 := d - 1) (As := [.int x4, .int x1]) (st := []) dX11_cheapest_53 mlRX11_245 cv_X4_gives zk_276 (ct_Rw_gives (dle (Nat.le_of_ble_eq_true rfl) hd0) he1) (dps (Nat.le_of_ble_eq_true rfl) hd0) rfl rfl (Nat.le_of_ble_eq_true rfl) ?_
  refine z_if_eq 65 dX11_cheapest_56 rfl (fun hc2 => ?_) (fun hc2 => ?_)
  · replace h := oT hc2 h
    refine z_lv (lv2 := [(0, .ref 0), (1, .int x1), (2, .int x2), (3, .int x3), (4, .int x4)]) [0, 1, 2, 3, 4] rfl ?_
    exact t_Fm_cheapest_65 hd0 hk7 x1 x2 x3 x4 v1.2 _ h
  · replace h := oF hc2 h
    refine z_iload dX11_cheapest_59 4 rfl ?_
    refine z_istore_n (M := mX11_cheapest) (lv2 := [(2, .int x4), (0, .ref 0), (1, .int x1), (3, .int x3), (4, .int x4), (5, .int x5)]) dX11_cheapest_61 (Nat.le_of_ble_eq_true rfl) rfl ?_
    refine z_iload dX11_cheapest_62 5 rfl ?_
    refine z_istore_n (M := mX11_cheapest) (lv2 := [(3, .int x5), (2, .int x4), (0, .ref 0), (1, .int x1), (4, .int x4), (5, .int x5)]) dX11_cheapest_64 (Nat.le_of_ble_eq_true rfl) rfl ?_
    refine z_lv (lv2 := [(0, .ref 0), (1, .int x1), (2, .int x4), (3, .int x5), (4, .int x4)]) [2, 3, 1, 0, 4] rfl ?_
    exact t_Fm_cheapest_65 hd0 hk7 x1 x4 x5 x4 v1.2 _ h
def Fm_cheapest_7 : Nat → Int32 → Int32 → Int32 → Int32 → Nm → Option (Int32 × Nm)
  | 0, _, _, _, _, _ => none
  | f + 1, x1, x2, x3, x4, ν =>
    (Fm_allCords ν).bind fun v1 =>
    (if v1 < x4 then
      some (x2, ν)
    else
      (So_priceOf ν 1 x4).bind fun v3 =>
      (In_bitCount x4).bind fun v4 =>
      (if x2 = (-1 : Int32) then
        Fm_cheapest_46 (Fm_cheapest_7 f) x1 x2 x3 x4 ((v3 * (5 : Int32)) + v4) ν
      else
        (if x3 ≤ ((v3 * (5 : Int32)) + v4) then
          Fm_cheapest_65 (Fm_cheapest_7 f) x1 x2 x3 x4 ν
        else
          Fm_cheapest_46 (Fm_cheapest_7 f) x1 x2 x3 x4 ((v3 * (5 : Int32)) + v4) ν)))
set_option maxRecDepth 100000 in
set_option maxHeartbeats 4000000 in
theorem t_Fm_cheapest_7 {g : GG} {d : Nat} (hd0 : 206 ≤ d) : ∀ (f : Nat), ∀ (x1 : Int32) (x2 : Int32) (x3 : Int32) (x4 : Int32) (ν : Nm) (r : (Int32 × Nm)), Fm_cheapest_7 f x1 x2 x3 x4 ν = some r → Z g d (0, 0) mX11_cheapest 333 0 0 7 [(0, .ref 0), (1, .int x1), (2, .int x2), (3, .int x3), (4, .int x4)] [] (zem ν) (zF g (some (.int r.1), zem r.2)) := by
  intro f
  induction f with
  | zero =>
    intro x1 x2 x3 x4 ν r h
    cases h
  | succ f ih =>
    intro x1 x2 x3 x4 ν r h
    rw [Fm_cheapest_7] at h
    refine z_iload dX11_cheapest_7 4 rfl ?_
    refine z_aload_n dX11_cheapest_9 0 rfl ?_
    obtain ⟨v1, he1, h⟩ := obind h
    refine y_Vi (M := mX11_cheapest) (Y := mX11_allCords) (d2 := d - 1) (As := []) (st := [.int x4]) dX11_cheapest_10 mlRX11_248 cv_X11_allCords zk_0 (ct_Fm_allCords (dle (Nat.le_of_ble_eq_true rfl) hd0) he1) (dps (Nat.le_of_ble_eq_true rfl) hd0) rfl rfl (Nat.le_of_ble_eq_true rfl) ?_
    refine z_icmp_gt 71 dX11_cheapest_13 rfl (fun hc2 => ?_) (fun hc2 => ?_)
    · replace h := oT hc2 h
      refine z_iload_n dX11_cheapest_71 2 rfl ?_
      cases h
      exact z_iret dX11_cheapest_72 rfl
    · replace h := oF hc2 h
      refine z_aload_n dX11_cheapest_16 0 rfl ?_
      refine y_getR (M := mX11_cheapest) (r := 1) dX11_cheapest_17 zk_0 flRX11_12 fr_9_0.1 (fr_9_0.2 _) ?_
      refine z_iload dX11_cheapest_20 4 rfl ?_
      obtain ⟨v3, he3, h⟩ := obind h
      refine y_Vi (M := mX11_cheapest) (Y := mX6_priceOf) (d2 := d - 1) (As := [.int x4]) (st := []) dX11_cheapest_22 mlRX11_251 cv_X6_priceOf zk_1 (ct_So_priceOf (dle (Nat.le_of_ble_eq_true rfl) hd0) zk_1 he3) (dps (Nat.le_of_ble_eq_true rfl) hd0) rfl rfl (Nat.le_of_ble_eq_true rfl) ?_
      refine z_iconst (M := mX11_cheapest) (v := 5) dX11_cheapest_25 rfl ?_
      refine z_imul dX11_cheapest_26 ?_
      refine z_iload dX11_cheapest_27 4 rfl ?_
      obtain ⟨v4, he4, h⟩ := obind h
      refine y_Si (M := mX11_cheapest) (Y := mJ6_bitCount_0f7a4) (d2 := d - 1) (As := [.int x4]) (st := [.int (v3 * (5 : Int32))]) dX11_cheapest_29 mlRX11_223 cv_J6_bitCount_0f7a4 (ct_In_bitCount (dle (Nat.le_of_ble_eq_true rfl) hd0) he4) (dps (Nat.le_of_ble_eq_true rfl) hd0) rfl rfl (Nat.le_of_ble_eq_true rfl) ?_
      refine z_iadd dX11_cheapest_32 ?_
      refine z_istore (M := mX11_cheapest) (lv2 := [(5, .int ((v3 * (5 : Int32)) + v4)), (0, .ref 0), (1, .int x1), (2, .int x2), (3, .int x3), (4, .int x4)]) dX11_cheapest_33 (Nat.le_of_ble_eq_true rfl) rfl ?_
      refine z_iload_n dX11_cheapest_35 3 rfl ?_
      refine z_iconst (M := mX11_cheapest) (v := -1) dX11_cheapest_36 rfl ?_
      refine z_icmp_eq 46 dX11_cheapest_37 rfl (fun hc5 => ?_) (fun hc5 => ?_)
      · replace h := oT hc5 h
        refine z_lv (lv2 := [(0, .ref 0), (1, .int x1), (2, .int x2), (3, .int x3), (4, .int x4), (5, .int ((v3 * (5 : Int32)) + v4))]) [1, 2, 3, 4, 5, 0] rfl ?_
        exact t_Fm_cheapest_46 hd0 ih x1 x2 x3 x4 ((v3 * (5 : Int32)) + v4) ν _ h
      · replace h := oF hc5 h
        refine z_iload dX11_cheapest_40 0 rfl ?_
        refine z_iload_n dX11_cheapest_42 4 rfl ?_
        refine z_icmp_ge 65 dX11_cheapest_43 rfl (fun hc6 => ?_) (fun hc6 => ?_)
        · replace h := oT hc6 h
          refine z_lv (lv2 := [(0, .ref 0), (1, .int x1), (2, .int x2), (3, .int x3), (4, .int x4)]) [1, 2, 3, 4, 5] rfl ?_
          exact t_Fm_cheapest_65 hd0 ih x1 x2 x3 x4 ν _ h
        · replace h := oF hc6 h
          refine z_lv (lv2 := [(0, .ref 0), (1, .int x1), (2, .int x2), (3, .int x3), (4, .int x4), (5, .int ((v3 * (5 : Int32)) + v4))]) [1, 2, 3, 4, 5, 0] rfl ?_
          exact t_Fm_cheapest_46 hd0 ih x1 x2 x3 x4 ((v3 * (5 : Int32)) + v4) ν _ h
def Fm_cheapest (x1 : Int32) (ν : Nm) : Option (Int32 × Nm) :=
  Fm_cheapest_7 FU x1 (-1 : Int32) (0 : Int32) (1 : Int32) ν
set_option maxRecDepth 100000 in
set_option maxHeartbeats 4000000 in
theorem t_Fm_cheapest {g : GG} {d : Nat} (hd0 : 206 ≤ d) : ∀ (x1 : Int32) (ν : Nm) (r : (Int32 × Nm)), Fm_cheapest x1 ν = some r → Z g d (0, 0) mX11_cheapest 333 0 0 0 [(0, .ref 0), (1, .int x1)] [] (zem ν) (zF g (some (.int r.1), zem r.2)) := by
  intro x1 ν r h
  unfold Fm_cheapest at h
  refine z_iconst (M := mX11_cheapest) (v := -1) dX11_cheapest_0 rfl ?_
  refine z_istore_n (M := mX11_cheapest) (lv2 := [(2, .int (-1 : Int32)), (0, .ref 0), (1, .int x1)]) dX11_cheapest_1 (Nat.le_of_ble_eq_true rfl) rfl ?_
  refine z_iconst (M := mX11_cheapest) (v := 0) dX11_cheapest_2 rfl ?_
  refine z_istore_n (M := mX11_cheapest) (lv2 := [(3, .int (0 : Int32)), (2, .int (-1 : Int32)), (0, .ref 0), (1, .int x1)]) dX11_cheapest_3 (Nat.le_of_ble_eq_true rfl) rfl ?_
  refine z_iconst (M := mX11_cheapest) (v := 1) dX11_cheapest_4 rfl ?_
  refine z_istore (M := mX11_cheapest) (lv2 := [(4, .int (1 : Int32)), (3, .int (0 : Int32)), (2, .int (-1 : Int32)), (0, .ref 0), (1, .int x1)]) dX11_cheapest_5 (Nat.le_of_ble_eq_true rfl) rfl ?_
  refine z_lv (lv2 := [(0, .ref 0), (1, .int x1), (2, .int (-1 : Int32)), (3, .int (0 : Int32)), (4, .int (1 : Int32))]) [3, 4, 2, 1, 0] rfl ?_
  exact t_Fm_cheapest_7 hd0 FU x1 (-1 : Int32) (0 : Int32) (1 : Int32) ν _ h
theorem ct_Fm_cheapest {g : GG} {d : Nat} {x1 : Int32} {ν : Nm} {r : (Int32 × Nm)} (hd0 : 206 ≤ d)  (h : Fm_cheapest x1 ν = some r) : Ct g d mX11_cheapest [.ref 0, .int x1] (zem ν) (some (.int r.1), zem r.2) := y_entry in_X11_cheapest (Nat.le_of_ble_eq_true rfl) rfl (t_Fm_cheapest hd0 x1 ν r h)
-- FuseMinutes.row(III)I
theorem dX11_row_0 : decode cX11_row 0 = .ok (.aload_n 0, 1) := by decide +kernel
theorem dX11_row_1 : decode cX11_row 1 = .ok (.iload_n 1, 1) := by decide +kernel
theorem dX11_row_2 : decode cX11_row 2 = .ok (.invokevirtual 236, 3) := by decide +kernel
theorem dX11_row_5 : decode cX11_row 5 = .ok (.ifCond .eq 15, 3) := by decide +kernel
theorem dX11_row_8 : decode cX11_row 8 = .ok (.aload_n 0, 1) := by decide +kernel
theorem dX11_row_9 : decode cX11_row 9 = .ok (.getfield 50, 3) := by decide +kernel
theorem dX11_row_12 : decode cX11_row 12 = .ok (.iload_n 1, 1) := by decide +kernel
theorem dX11_row_13 : decode cX11_row 13 = .ok (.iload_n 2, 1) := by decide +kernel
theorem dX11_row_14 : decode cX11_row 14 = .ok (.invokevirtual 254, 3) := by decide +kernel
theorem dX11_row_17 : decode cX11_row 17 = .ok (.ifCond .ne 6, 3) := by decide +kernel
theorem dX11_row_20 : decode cX11_row 20 = .ok (.bipush (-2), 2) := by decide +kernel
theorem dX11_row_22 : decode cX11_row 22 = .ok (.ireturn, 1) := by decide +kernel
theorem dX11_row_23 : decode cX11_row 23 = .ok (.iload_n 3, 1) := by decide +kernel
theorem dX11_row_24 : decode cX11_row 24 = .ok (.iconst (-1), 1) := by decide +kernel
theorem dX11_row_25 : decode cX11_row 25 = .ok (.if_icmp .ne 13, 3) := by decide +kernel
theorem dX11_row_28 : decode cX11_row 28 = .ok (.aload_n 0, 1) := by decide +kernel
theorem dX11_row_29 : decode cX11_row 29 = .ok (.getfield 50, 3) := by decide +kernel
theorem dX11_row_32 : decode cX11_row 32 = .ok (.getfield 257, 3) := by decide +kernel
theorem dX11_row_35 : decode cX11_row 35 = .ok (.goto 11, 3) := by decide +kernel
theorem dX11_row_38 : decode cX11_row 38 = .ok (.aload_n 0, 1) := by decide +kernel
theorem dX11_row_39 : decode cX11_row 39 = .ok (.getfield 50, 3) := by decide +kernel
theorem dX11_row_42 : decode cX11_row 42 = .ok (.iload_n 3, 1) := by decide +kernel
theorem dX11_row_43 : decode cX11_row 43 = .ok (.invokevirtual 260, 3) := by decide +kernel
theorem dX11_row_46 : decode cX11_row 46 = .ok (.ireturn, 1) := by decide +kernel
def Fm_row (x1 : Int32) (x2 : Int32) (x3 : Int32) (ν : Nm) : Option (Int32 × Nm) :=
  (Fm_isSet ν x1).bind fun v1 =>
  (if (b2i v1) = 0 then
    some ((-2 : Int32), ν)
  else
    (Rw_findRow x1 x2 ν).bind fun v3 =>
    (if ¬ (b2i v3.1) = 0 then
      (if ¬ x3 = (-1 : Int32) then
        (Rw_litAt v3.2 x3).bind fun v6 =>
        some (v6, v3.2)
      else
        some ((gi v3.2 276 2), v3.2))
    else
      some ((-2 : Int32), v3.2)))
set_option maxRecDepth 100000 in
set_option maxHeartbeats 4000000 in
theorem t_Fm_row {g : GG} {d : Nat} (hd0 : 207 ≤ d) : ∀ (x1 : Int32) (x2 : Int32) (x3 : Int32) (ν : Nm) (r : (Int32 × Nm)), Fm_row x1 x2 x3 ν = some r → Z g d (0, 0) mX11_row 333 0 0 0 [(0, .ref 0), (1, .int x1), (2, .int x2), (3, .int x3)] [] (zem ν) (zF g (some (.int r.1), zem r.2)) := by
  intro x1 x2 x3 ν r h
  unfold Fm_row at h
  refine z_aload_n dX11_row_0 0 rfl ?_
  refine z_iload_n dX11_row_1 1 rfl ?_
  obtain ⟨v1, he1, h⟩ := obind h
  refine y_Vi (M := mX11_row) (Y := mX11_isSet) (d2 := d - 1) (As := [.int x1]) (st := []) dX11_row_2 mlRX11_236 cv_X11_isSet zk_0 (ct_Fm_isSet (dle (Nat.le_of_ble_eq_true rfl) hd0) he1) (dps (Nat.le_of_ble_eq_true rfl) hd0) rfl rfl (Nat.le_of_ble_eq_true rfl) ?_
  refine z_if_eq 20 dX11_row_5 rfl (fun hc2 => ?_) (fun hc2 => ?_)
  · replace h := oT hc2 h
    refine z_bipush (M := mX11_row) (v := -2) dX11_row_20 rfl ?_
    cases h
    exact z_iret dX11_row_22 rfl
  · replace h := oF hc2 h
    refine z_aload_n dX11_row_8 0 rfl ?_
    refine y_getR (M := mX11_row) (r := 276) dX11_row_9 zk_0 flRX11_50 fr_9_5.1 (fr_9_5.2 _) ?_
    refine z_iload_n dX11_row_12 1 rfl ?_
    refine z_iload_n dX11_row_13 2 rfl ?_
    obtain ⟨v3, he3, h⟩ := obind h
    refine y_Vi (M := mX11_row) (Y := mX4_findRow) (d2 := d - 1) (As := [.int x1, .int x2]) (st := []) dX11_row_14 mlRX11_254 cv_X4_findRow zk_276 (ct_Rw_findRow (dle (Nat.le_of_ble_eq_true rfl) hd0) he3) (dps (Nat.le_of_ble_eq_true rfl) hd0) rfl rfl (Nat.le_of_ble_eq_true rfl) ?_
    refine z_if_ne 23 dX11_row_17 rfl (fun hc4 => ?_) (fun hc4 => ?_)
    · replace h := oT hc4 h
      refine z_iload_n dX11_row_23 3 rfl ?_
      refine z_iconst (M := mX11_row) (v := -1) dX11_row_24 rfl ?_
      refine z_icmp_ne 38 dX11_row_25 rfl (fun hc5 => ?_) (fun hc5 => ?_)
      · replace h := oT hc5 h
        refine z_aload_n dX11_row_38 0 rfl ?_
        refine y_getR (M := mX11_row) (r := 276) dX11_row_39 zk_0 flRX11_50 fr_9_5.1 (fr_9_5.2 _) ?_
        refine z_iload_n dX11_row_42 3 rfl ?_
        obtain ⟨v6, he6, h⟩ := obind h
        refine y_Vi (M := mX11_row) (Y := mX4_litAt) (d2 := d - 1) (As := [.int x3]) (st := []) dX11_row_43 mlRX11_260 cv_X4_litAt zk_276 (ct_Rw_litAt (dle (Nat.le_of_ble_eq_true rfl) hd0) he6) (dps (Nat.le_of_ble_eq_true rfl) hd0) rfl rfl (Nat.le_of_ble_eq_true rfl) ?_
        cases h
        exact z_iret dX11_row_46 rfl
      · replace h := oFn hc5 h
        refine z_aload_n dX11_row_28 0 rfl ?_
        refine y_getR (M := mX11_row) (r := 276) dX11_row_29 zk_0 flRX11_50 fr_9_5.1 (fr_9_5.2 _) ?_
        refine y_getI dX11_row_32 zk_276 flRX11_257 ?_
        refine z_goto 46 dX11_row_35 rfl ?_
        cases h
        exact z_iret dX11_row_46 rfl
    · replace h := oFn hc4 h
      refine z_bipush (M := mX11_row) (v := -2) dX11_row_20 rfl ?_
      cases h
      exact z_iret dX11_row_22 rfl
theorem ct_Fm_row {g : GG} {d : Nat} {x1 : Int32} {x2 : Int32} {x3 : Int32} {ν : Nm} {r : (Int32 × Nm)} (hd0 : 207 ≤ d)  (h : Fm_row x1 x2 x3 ν = some r) : Ct g d mX11_row [.ref 0, .int x1, .int x2, .int x3] (zem ν) (some (.int r.1), zem r.2) := y_entry in_X11_row (Nat.le_of_ble_eq_true rfl) rfl (t_Fm_row hd0 x1 x2 x3 ν r h)
-- FuseMinutes.between(IIZ)I
theorem dX11_between_0 : decode cX11_between 0 = .ok (.aload_n 0, 1) := by decide +kernel
theorem dX11_between_1 : decode cX11_between 1 = .ok (.iload_n 1, 1) := by decide +kernel
theorem dX11_between_2 : decode cX11_between 2 = .ok (.invokevirtual 236, 3) := by decide +kernel
theorem dX11_between_5 : decode cX11_between 5 = .ok (.ifCond .eq 15, 3) := by decide +kernel
theorem dX11_between_8 : decode cX11_between 8 = .ok (.aload_n 0, 1) := by decide +kernel
theorem dX11_between_9 : decode cX11_between 9 = .ok (.getfield 50, 3) := by decide +kernel
theorem dX11_between_12 : decode cX11_between 12 = .ok (.iload_n 1, 1) := by decide +kernel
theorem dX11_between_13 : decode cX11_between 13 = .ok (.iload_n 2, 1) := by decide +kernel
theorem dX11_between_14 : decode cX11_between 14 = .ok (.invokevirtual 254, 3) := by decide +kernel
theorem dX11_between_17 : decode cX11_between 17 = .ok (.ifCond .ne 6, 3) := by decide +kernel
theorem dX11_between_20 : decode cX11_between 20 = .ok (.bipush (-2), 2) := by decide +kernel
theorem dX11_between_22 : decode cX11_between 22 = .ok (.ireturn, 1) := by decide +kernel
theorem dX11_between_23 : decode cX11_between 23 = .ok (.iload_n 3, 1) := by decide +kernel
theorem dX11_between_24 : decode cX11_between 24 = .ok (.ifCond .eq 13, 3) := by decide +kernel
theorem dX11_between_27 : decode cX11_between 27 = .ok (.aload_n 0, 1) := by decide +kernel
theorem dX11_between_28 : decode cX11_between 28 = .ok (.getfield 50, 3) := by decide +kernel
theorem dX11_between_31 : decode cX11_between 31 = .ok (.getfield 257, 3) := by decide +kernel
theorem dX11_between_34 : decode cX11_between 34 = .ok (.goto 10, 3) := by decide +kernel
theorem dX11_between_37 : decode cX11_between 37 = .ok (.aload_n 0, 1) := by decide +kernel
theorem dX11_between_38 : decode cX11_between 38 = .ok (.getfield 50, 3) := by decide +kernel
theorem dX11_between_41 : decode cX11_between 41 = .ok (.getfield 263, 3) := by decide +kernel
theorem dX11_between_44 : decode cX11_between 44 = .ok (.ireturn, 1) := by decide +kernel
def Fm_between (x1 : Int32) (x2 : Int32) (x3 : Int32) (ν : Nm) : Option (Int32 × Nm) :=
  (Fm_isSet ν x1).bind fun v1 =>
  (if (b2i v1) = 0 then
    some ((-2 : Int32), ν)
  else
    (Rw_findRow x1 x2 ν).bind fun v3 =>
    (if ¬ (b2i v3.1) = 0 then
      (if x3 = 0 then
        some ((gi v3.2 276 1), v3.2)
      else
        some ((gi v3.2 276 2), v3.2))
    else
      some ((-2 : Int32), v3.2)))
set_option maxRecDepth 100000 in
set_option maxHeartbeats 4000000 in
theorem t_Fm_between {g : GG} {d : Nat} (hd0 : 207 ≤ d) : ∀ (x1 : Int32) (x2 : Int32) (x3 : Int32) (ν : Nm) (r : (Int32 × Nm)), Fm_between x1 x2 x3 ν = some r → Z g d (0, 0) mX11_between 333 0 0 0 [(0, .ref 0), (1, .int x1), (2, .int x2), (3, .int x3)] [] (zem ν) (zF g (some (.int r.1), zem r.2)) := by
  intro x1 x2 x3 ν r h
  unfold Fm_between at h
  refine z_aload_n dX11_between_0 0 rfl ?_
  refine z_iload_n dX11_between_1 1 rfl ?_
  obtain ⟨v1, he1, h⟩ := obind h
  refine y_Vi (M := mX11_between) (Y := mX11_isSet) (d2 := d - 1) (As := [.int x1]) (st := []) dX11_between_2 mlRX11_236 cv_X11_isSet zk_0 (ct_Fm_isSet (dle (Nat.le_of_ble_eq_true rfl) hd0) he1) (dps (Nat.le_of_ble_eq_true rfl) hd0) rfl rfl (Nat.le_of_ble_eq_true rfl) ?_
  refine z_if_eq 20 dX11_between_5 rfl (fun hc2 => ?_) (fun hc2 => ?_)
  · replace h := oT hc2 h
    refine z_bipush (M := mX11_between) (v := -2) dX11_between_20 rfl ?_
    cases h
    exact z_iret dX11_between_22 rfl
  · replace h := oF hc2 h
    refine z_aload_n dX11_between_8 0 rfl ?_
    refine y_getR (M := mX11_between) (r := 276) dX11_between_9 zk_0 flRX11_50 fr_9_5.1 (fr_9_5.2 _) ?_
    refine z_iload_n dX11_between_12 1 rfl ?_
    refine z_iload_n dX11_between_13 2 rfl ?_
    obtain ⟨v3, he3, h⟩ := obind h
    refine y_Vi (M := mX11_between) (Y := mX4_findRow) (d2 := d - 1) (As := [.int x1, .int x2]) (st := []) dX11_between_14 mlRX11_254 cv_X4_findRow zk_276 (ct_Rw_findRow (dle (Nat.le_of_ble_eq_true rfl) hd0) he3) (dps (Nat.le_of_ble_eq_true rfl) hd0) rfl rfl (Nat.le_of_ble_eq_true rfl) ?_
    refine z_if_ne 23 dX11_between_17 rfl (fun hc4 => ?_) (fun hc4 => ?_)
    · replace h := oT hc4 h
      refine z_iload_n dX11_between_23 3 rfl ?_
      refine z_if_eq 37 dX11_between_24 rfl (fun hc5 => ?_) (fun hc5 => ?_)
      · replace h := oT hc5 h
        refine z_aload_n dX11_between_37 0 rfl ?_
        refine y_getR (M := mX11_between) (r := 276) dX11_between_38 zk_0 flRX11_50 fr_9_5.1 (fr_9_5.2 _) ?_
        refine y_getI dX11_between_41 zk_276 flRX11_263 ?_
        cases h
        exact z_iret dX11_between_44 rfl
      · replace h := oF hc5 h
        refine z_aload_n dX11_between_27 0 rfl ?_
        refine y_getR (M := mX11_between) (r := 276) dX11_between_28 zk_0 flRX11_50 fr_9_5.1 (fr_9_5.2 _) ?_
        refine y_getI dX11_between_31 zk_276 flRX11_257 ?_
        refine z_goto 44 dX11_between_34 rfl ?_
        cases h
        exact z_iret dX11_between_44 rfl
    · replace h := oFn hc4 h
      refine z_bipush (M := mX11_between) (v := -2) dX11_between_20 rfl ?_
      cases h
      exact z_iret dX11_between_22 rfl
theorem ct_Fm_between {g : GG} {d : Nat} {x1 : Int32} {x2 : Int32} {x3 : Int32} {ν : Nm} {r : (Int32 × Nm)} (hd0 : 207 ≤ d)  (h : Fm_between x1 x2 x3 ν = some r) : Ct g d mX11_between [.ref 0, .int x1, .int x2, .int x3] (zem ν) (some (.int r.1), zem r.2) := y_entry in_X11_between (Nat.le_of_ble_eq_true rfl) rfl (t_Fm_between hd0 x1 x2 x3 ν r h)
-- FuseMinutes.nearest(II)I
theorem dX11_nearest_0 : decode cX11_nearest 0 = .ok (.aload_n 0, 1) := by decide +kernel
theorem dX11_nearest_1 : decode cX11_nearest 1 = .ok (.iload_n 1, 1) := by decide +kernel
theorem dX11_nearest_2 : decode cX11_nearest 2 = .ok (.invokevirtual 236, 3) := by decide +kernel
theorem dX11_nearest_5 : decode cX11_nearest 5 = .ok (.ifCond .eq 10, 3) := by decide +kernel
theorem dX11_nearest_8 : decode cX11_nearest 8 = .ok (.iload_n 2, 1) := by decide +kernel
theorem dX11_nearest_9 : decode cX11_nearest 9 = .ok (.invokestatic 266, 3) := by decide +kernel
theorem dX11_nearest_12 : decode cX11_nearest 12 = .ok (.ifCond .ne 5, 3) := by decide +kernel
theorem dX11_nearest_15 : decode cX11_nearest 15 = .ok (.iconst (-1), 1) := by decide +kernel
theorem dX11_nearest_16 : decode cX11_nearest 16 = .ok (.ireturn, 1) := by decide +kernel
theorem dX11_nearest_17 : decode cX11_nearest 17 = .ok (.aload_n 0, 1) := by decide +kernel
theorem dX11_nearest_18 : decode cX11_nearest 18 = .ok (.getfield 50, 3) := by decide +kernel
theorem dX11_nearest_21 : decode cX11_nearest 21 = .ok (.iload_n 1, 1) := by decide +kernel
theorem dX11_nearest_22 : decode cX11_nearest 22 = .ok (.iload_n 2, 1) := by decide +kernel
theorem dX11_nearest_23 : decode cX11_nearest 23 = .ok (.invokevirtual 269, 3) := by decide +kernel
theorem dX11_nearest_26 : decode cX11_nearest 26 = .ok (.ireturn, 1) := by decide +kernel
def Fm_nearest (x1 : Int32) (x2 : Int32) (ν : Nm) : Option (Int32 × Nm) :=
  (Fm_isSet ν x1).bind fun v1 =>
  (if (b2i v1) = 0 then
    some ((-1 : Int32), ν)
  else
    (Fm_isSpan x2).bind fun v3 =>
    (if ¬ (b2i v3) = 0 then
      (Rw_nearestTo x1 x2 ν).bind fun v5 =>
      some (v5.1, v5.2)
    else
      some ((-1 : Int32), ν)))
set_option maxRecDepth 100000 in
set_option maxHeartbeats 4000000 in
theorem t_Fm_nearest {g : GG} {d : Nat} (hd0 : 206 ≤ d) : ∀ (x1 : Int32) (x2 : Int32) (ν : Nm) (r : (Int32 × Nm)), Fm_nearest x1 x2 ν = some r → Z g d (0, 0) mX11_nearest 333 0 0 0 [(0, .ref 0), (1, .int x1), (2, .int x2)] [] (zem ν) (zF g (some (.int r.1), zem r.2)) := by
  intro x1 x2 ν r h
  unfold Fm_nearest at h
  refine z_aload_n dX11_nearest_0 0 rfl ?_
  refine z_iload_n dX11_nearest_1 1 rfl ?_
  obtain ⟨v1, he1, h⟩ := obind h
  refine y_Vi (M := mX11_nearest) (Y := mX11_isSet) (d2 := d - 1) (As := [.int x1]) (st := []) dX11_nearest_2 mlRX11_236 cv_X11_isSet zk_0 (ct_Fm_isSet (dle (Nat.le_of_ble_eq_true rfl) hd0) he1) (dps (Nat.le_of_ble_eq_true rfl) hd0) rfl rfl (Nat.le_of_ble_eq_true rfl) ?_
  refine z_if_eq 15 dX11_nearest_5 rfl (fun hc2 => ?_) (fun hc2 => ?_)
  · replace h := oT hc2 h
    refine z_iconst (M := mX11_nearest) (v := -1) dX11_nearest_15 rfl ?_
    cases h
    exact z_iret dX11_nearest_16 rfl
  · replace h := oF hc2 h
    refine z_iload_n dX11_nearest_8 2 rfl ?_
    obtain ⟨v3, he3, h⟩ := obind h
    refine y_Si (M := mX11_nearest) (Y := mX11_isSpan) (d2 := d - 1) (As := [.int x2]) (st := []) dX11_nearest_9 mlRX11_266 cv_X11_isSpan (ct_Fm_isSpan (dle (Nat.le_of_ble_eq_true rfl) hd0) he3) (dps (Nat.le_of_ble_eq_true rfl) hd0) rfl rfl (Nat.le_of_ble_eq_true rfl) ?_
    refine z_if_ne 17 dX11_nearest_12 rfl (fun hc4 => ?_) (fun hc4 => ?_)
    · replace h := oT hc4 h
      refine z_aload_n dX11_nearest_17 0 rfl ?_
      refine y_getR (M := mX11_nearest) (r := 276) dX11_nearest_18 zk_0 flRX11_50 fr_9_5.1 (fr_9_5.2 _) ?_
      refine z_iload_n dX11_nearest_21 1 rfl ?_
      refine z_iload_n dX11_nearest_22 2 rfl ?_
      obtain ⟨v5, he5, h⟩ := obind h
      refine y_Vi (M := mX11_nearest) (Y := mX4_nearestTo) (d2 := d - 1) (As := [.int x1, .int x2]) (st := []) dX11_nearest_23 mlRX11_269 cv_X4_nearestTo zk_276 (ct_Rw_nearestTo (dle (Nat.le_of_ble_eq_true rfl) hd0) he5) (dps (Nat.le_of_ble_eq_true rfl) hd0) rfl rfl (Nat.le_of_ble_eq_true rfl) ?_
      cases h
      exact z_iret dX11_nearest_26 rfl
    · replace h := oFn hc4 h
      refine z_iconst (M := mX11_nearest) (v := -1) dX11_nearest_15 rfl ?_
      cases h
      exact z_iret dX11_nearest_16 rfl
theorem ct_Fm_nearest {g : GG} {d : Nat} {x1 : Int32} {x2 : Int32} {ν : Nm} {r : (Int32 × Nm)} (hd0 : 206 ≤ d)  (h : Fm_nearest x1 x2 ν = some r) : Ct g d mX11_nearest [.ref 0, .int x1, .int x2] (zem ν) (some (.int r.1), zem r.2) := y_entry in_X11_nearest (Nat.le_of_ble_eq_true rfl) rfl (t_Fm_nearest hd0 x1 x2 ν r h)
-- FuseMinutes.want(I)I
theorem dX11_want_0 : decode cX11_want 0 = .ok (.iload_n 1, 1) := by decide +kernel
theorem dX11_want_1 : decode cX11_want 1 = .ok (.iconst (-1), 1) := by decide +kernel
theorem dX11_want_2 : decode cX11_want 2 = .ok (.if_icmp .ne 16, 3) := by decide +kernel
theorem dX11_want_5 : decode cX11_want 5 = .ok (.aload_n 0, 1) := by decide +kernel
theorem dX11_want_6 : decode cX11_want 6 = .ok (.getfield 12, 3) := by decide +kernel
theorem dX11_want_9 : decode cX11_want 9 = .ok (.getfield 272, 3) := by decide +kernel
theorem dX11_want_12 : decode cX11_want 12 = .ok (.iconst 0, 1) := by decide +kernel
theorem dX11_want_13 : decode cX11_want 13 = .ok (.putfield 276, 3) := by decide +kernel
theorem dX11_want_16 : decode cX11_want 16 = .ok (.iconst 0, 1) := by decide +kernel
theorem dX11_want_17 : decode cX11_want 17 = .ok (.ireturn, 1) := by decide +kernel
theorem dX11_want_18 : decode cX11_want 18 = .ok (.iload_n 1, 1) := by decide +kernel
theorem dX11_want_19 : decode cX11_want 19 = .ok (.invokestatic 266, 3) := by decide +kernel
theorem dX11_want_22 : decode cX11_want 22 = .ok (.ifCond .eq 30, 3) := by decide +kernel
theorem dX11_want_25 : decode cX11_want 25 = .ok (.aload_n 0, 1) := by decide +kernel
theorem dX11_want_26 : decode cX11_want 26 = .ok (.getfield 12, 3) := by decide +kernel
theorem dX11_want_29 : decode cX11_want 29 = .ok (.getfield 272, 3) := by decide +kernel
theorem dX11_want_32 : decode cX11_want 32 = .ok (.iload_n 1, 1) := by decide +kernel
theorem dX11_want_33 : decode cX11_want 33 = .ok (.invokevirtual 279, 3) := by decide +kernel
theorem dX11_want_36 : decode cX11_want 36 = .ok (.ifCond .eq 16, 3) := by decide +kernel
theorem dX11_want_39 : decode cX11_want 39 = .ok (.aload_n 0, 1) := by decide +kernel
theorem dX11_want_40 : decode cX11_want 40 = .ok (.getfield 12, 3) := by decide +kernel
theorem dX11_want_43 : decode cX11_want 43 = .ok (.getfield 272, 3) := by decide +kernel
theorem dX11_want_46 : decode cX11_want 46 = .ok (.getfield 276, 3) := by decide +kernel
theorem dX11_want_49 : decode cX11_want 49 = .ok (.goto 5, 3) := by decide +kernel
theorem dX11_want_52 : decode cX11_want 52 = .ok (.bipush (-2), 2) := by decide +kernel
theorem dX11_want_54 : decode cX11_want 54 = .ok (.ireturn, 1) := by decide +kernel
def Fm_want (x1 : Int32) (ν : Nm) : Option (Int32 × Nm) :=
  (if ¬ x1 = (-1 : Int32) then
    (Fm_isSpan x1).bind fun v2 =>
    (if (b2i v2) = 0 then
      some ((-2 : Int32), ν)
    else
      (To_add 130 x1 ν).bind fun v4 =>
      (if (b2i v4.1) = 0 then
        some ((-2 : Int32), v4.2)
      else
        some ((gi v4.2 130 1), v4.2)))
  else
    some ((0 : Int32), (si ν 130 1 (0 : Int32))))
set_option maxRecDepth 100000 in
set_option maxHeartbeats 4000000 in
theorem t_Fm_want {g : GG} {d : Nat} (hd0 : 3 ≤ d) : ∀ (x1 : Int32) (ν : Nm) (r : (Int32 × Nm)), Fm_want x1 ν = some r → Z g d (0, 0) mX11_want 333 0 0 0 [(0, .ref 0), (1, .int x1)] [] (zem ν) (zF g (some (.int r.1), zem r.2)) := by
  intro x1 ν r h
  unfold Fm_want at h
  refine z_iload_n dX11_want_0 1 rfl ?_
  refine z_iconst (M := mX11_want) (v := -1) dX11_want_1 rfl ?_
  refine z_icmp_ne 18 dX11_want_2 rfl (fun hc1 => ?_) (fun hc1 => ?_)
  · replace h := oT hc1 h
    refine z_iload_n dX11_want_18 1 rfl ?_
    obtain ⟨v2, he2, h⟩ := obind h
    refine y_Si (M := mX11_want) (Y := mX11_isSpan) (d2 := d - 1) (As := [.int x1]) (st := []) dX11_want_19 mlRX11_266 cv_X11_isSpan (ct_Fm_isSpan (dle (Nat.le_of_ble_eq_true rfl) hd0) he2) (dps (Nat.le_of_ble_eq_true rfl) hd0) rfl rfl (Nat.le_of_ble_eq_true rfl) ?_
    refine z_if_eq 52 dX11_want_22 rfl (fun hc3 => ?_) (fun hc3 => ?_)
    · replace h := oT hc3 h
      refine z_bipush (M := mX11_want) (v := -2) dX11_want_52 rfl ?_
      cases h
      exact z_iret dX11_want_54 rfl
    · replace h := oF hc3 h
      refine z_aload_n dX11_want_25 0 rfl ?_
      refine y_getR (M := mX11_want) (r := 1) dX11_want_26 zk_0 flRX11_12 fr_9_0.1 (fr_9_0.2 _) ?_
      refine y_getR (M := mX11_want) (r := 130) dX11_want_29 zk_1 flRX11_272 fr_5_8.1 (fr_5_8.2 _) ?_
      refine z_iload_n dX11_want_32 1 rfl ?_
      obtain ⟨v4, he4, h⟩ := obind h
      refine y_Vi (M := mX11_want) (Y := mX10_add) (d2 := d - 1) (As := [.int x1]) (st := []) dX11_want_33 mlRX11_279 cv_X10_add zk_130 (ct_To_add (dle (Nat.le_of_ble_eq_true rfl) hd0) zk_130 he4) (dps (Nat.le_of_ble_eq_true rfl) hd0) rfl rfl (Nat.le_of_ble_eq_true rfl) ?_
      refine z_if_eq 52 dX11_want_36 rfl (fun hc5 => ?_) (fun hc5 => ?_)
      · replace h := oT hc5 h
        refine z_bipush (M := mX11_want) (v := -2) dX11_want_52 rfl ?_
        cases h
        exact z_iret dX11_want_54 rfl
      · replace h := oF hc5 h
        refine z_aload_n dX11_want_39 0 rfl ?_
        refine y_getR (M := mX11_want) (r := 1) dX11_want_40 zk_0 flRX11_12 fr_9_0.1 (fr_9_0.2 _) ?_
        refine y_getR (M := mX11_want) (r := 130) dX11_want_43 zk_1 flRX11_272 fr_5_8.1 (fr_5_8.2 _) ?_
        refine y_getI dX11_want_46 zk_130 flRX11_276 ?_
        refine z_goto 54 dX11_want_49 rfl ?_
        cases h
        exact z_iret dX11_want_54 rfl
  · replace h := oFn hc1 h
    refine z_aload_n dX11_want_5 0 rfl ?_
    refine y_getR (M := mX11_want) (r := 1) dX11_want_6 zk_0 flRX11_12 fr_9_0.1 (fr_9_0.2 _) ?_
    refine y_getR (M := mX11_want) (r := 130) dX11_want_9 zk_1 flRX11_272 fr_5_8.1 (fr_5_8.2 _) ?_
    refine z_iconst (M := mX11_want) (v := 0) dX11_want_12 rfl ?_
    refine y_putI dX11_want_13 zk_130 flRX11_276 ⟨rfl, rfl⟩ ?_
    refine z_iconst (M := mX11_want) (v := 0) dX11_want_16 rfl ?_
    cases h
    exact z_iret dX11_want_17 rfl
theorem ct_Fm_want {g : GG} {d : Nat} {x1 : Int32} {ν : Nm} {r : (Int32 × Nm)} (hd0 : 3 ≤ d)  (h : Fm_want x1 ν = some r) : Ct g d mX11_want [.ref 0, .int x1] (zem ν) (some (.int r.1), zem r.2) := y_entry in_X11_want (Nat.le_of_ble_eq_true rfl) rfl (t_Fm_want hd0 x1 ν r h)
-- FuseMinutes.setsGiving(I)I
theorem dX11_setsGiving_0 : decode cX11_setsGiving 0 = .ok (.iconst 0, 1) := by decide +kernel
theorem dX11_setsGiving_1 : decode cX11_setsGiving 1 = .ok (.istore_n 2, 1) := by decide +kernel
theorem dX11_setsGiving_2 : decode cX11_setsGiving 2 = .ok (.iconst 1, 1) := by decide +kernel
theorem dX11_setsGiving_3 : decode cX11_setsGiving 3 = .ok (.istore_n 3, 1) := by decide +kernel
theorem dX11_setsGiving_4 : decode cX11_setsGiving 4 = .ok (.iload_n 3, 1) := by decide +kernel
theorem dX11_setsGiving_5 : decode cX11_setsGiving 5 = .ok (.aload_n 0, 1) := by decide +kernel
theorem dX11_setsGiving_6 : decode cX11_setsGiving 6 = .ok (.invokevirtual 248, 3) := by decide +kernel
theorem dX11_setsGiving_9 : decode cX11_setsGiving 9 = .ok (.if_icmp .gt 27, 3) := by decide +kernel
theorem dX11_setsGiving_12 : decode cX11_setsGiving 12 = .ok (.aload_n 0, 1) := by decide +kernel
theorem dX11_setsGiving_13 : decode cX11_setsGiving 13 = .ok (.getfield 50, 3) := by decide +kernel
theorem dX11_setsGiving_16 : decode cX11_setsGiving 16 = .ok (.iload_n 3, 1) := by decide +kernel
theorem dX11_setsGiving_17 : decode cX11_setsGiving 17 = .ok (.iload_n 1, 1) := by decide +kernel
theorem dX11_setsGiving_18 : decode cX11_setsGiving 18 = .ok (.invokevirtual 245, 3) := by decide +kernel
theorem dX11_setsGiving_21 : decode cX11_setsGiving 21 = .ok (.ifCond .eq 9, 3) := by decide +kernel
theorem dX11_setsGiving_24 : decode cX11_setsGiving 24 = .ok (.iload_n 2, 1) := by decide +kernel
theorem dX11_setsGiving_25 : decode cX11_setsGiving 25 = .ok (.iconst 1, 1) := by decide +kernel
theorem dX11_setsGiving_26 : decode cX11_setsGiving 26 = .ok (.iload_n 3, 1) := by decide +kernel
theorem dX11_setsGiving_27 : decode cX11_setsGiving 27 = .ok (.ishl, 1) := by decide +kernel
theorem dX11_setsGiving_28 : decode cX11_setsGiving 28 = .ok (.ior, 1) := by decide +kernel
theorem dX11_setsGiving_29 : decode cX11_setsGiving 29 = .ok (.istore_n 2, 1) := by decide +kernel
theorem dX11_setsGiving_30 : decode cX11_setsGiving 30 = .ok (.iinc 3 1, 3) := by decide +kernel
theorem dX11_setsGiving_33 : decode cX11_setsGiving 33 = .ok (.goto (-29), 3) := by decide +kernel
theorem dX11_setsGiving_36 : decode cX11_setsGiving 36 = .ok (.iload_n 2, 1) := by decide +kernel
theorem dX11_setsGiving_37 : decode cX11_setsGiving 37 = .ok (.ireturn, 1) := by decide +kernel
def Fm_setsGiving_30 (k4 : Int32 → Int32 → Int32 → Nm → Option (Int32 × Nm)) (x1 : Int32) (x2 : Int32) (x3 : Int32) (ν : Nm) : Option (Int32 × Nm) :=
  k4 x1 x2 (x3 + (1 : Int32)) ν
set_option maxRecDepth 100000 in
set_option maxHeartbeats 4000000 in
theorem t_Fm_setsGiving_30 {g : GG} {d : Nat} (hd0 : 206 ≤ d) {k4 : Int32 → Int32 → Int32 → Nm → Option (Int32 × Nm)} (hk4 : ∀ (x1 : Int32) (x2 : Int32) (x3 : Int32) (ν : Nm) (r : (Int32 × Nm)), k4 x1 x2 x3 ν = some r → Z g d (0, 0) mX11_setsGiving 333 0 0 4 [(0, .ref 0), (1, .int x1), (2, .int x2), (3, .int x3)] [] (zem ν) (zF g (some (.int r.1), zem r.2))) : ∀ (x1 : Int32) (x2 : Int32) (x3 : Int32) (ν : Nm) (r : (Int32 × Nm)), Fm_setsGiving_30 k4 x1 x2 x3 ν = some r → Z g d (0, 0) mX11_setsGiving 333 0 0 30 [(0, .ref 0), (1, .int x1), (2, .int x2), (3, .int x3)] [] (zem ν) (zF g (some (.int r.1), zem r.2)) := by
  intro x1 x2 x3 ν r h
  unfold Fm_setsGiving_30 at h
  refine z_iinc (M := mX11_setsGiving) (v := (x3 + (1 : Int32))) (lv2 := [(3, .int (x3 + (1 : Int32))), (0, .ref 0), (1, .int x1), (2, .int x2)]) dX11_setsGiving_30 3 rfl rfl (Nat.le_of_ble_eq_true rfl) rfl ?_
  refine z_goto 4 dX11_setsGiving_33 rfl ?_
  refine z_lv (lv2 := [(0, .ref 0), (1, .int x1), (2, .int x2), (3, .int (x3 + (1 : Int32)))]) [1, 2, 3, 0] rfl ?_
  exact hk4 x1 x2 (x3 + (1 : Int32)) ν _ h
def Fm_setsGiving_4 : Nat → Int32 → Int32 → Int32 → Nm → Option (Int32 × Nm)
  | 0, _, _, _, _ => none
  | f + 1, x1, x2, x3, ν =>
    (Fm_allCords ν).bind fun v1 =>
    (if v1 < x3 then
      some (x2, ν)
    else
      (Rw_gives x3 x1 ν).bind fun v3 =>
      (if (b2i v3.1) = 0 then
        Fm_setsGiving_30 (Fm_setsGiving_4 f) x1 x2 x3 v3.2
      else
        Fm_setsGiving_30 (Fm_setsGiving_4 f) x1 (x2 ||| ((1 : Int32) <<< (x3 &&& 31))) x3 v3.2))
set_option maxRecDepth 100000 in
set_option maxHeartbeats 4000000 in
theorem t_Fm_setsGiving_4 {g : GG} {d : Nat} (hd0 : 206 ≤ d) : ∀ (f : Nat), ∀ (x1 : Int32) (x2 : Int32) (x3 : Int32) (ν : Nm) (r : (Int32 × Nm)), Fm_setsGiving_4 f x1 x2 x3 ν = some r → Z g d (0, 0) mX11_setsGiving 333 0 0 4 [(0, .ref 0), (1, .int x1), (2, .int x2), (3, .int x3)] [] (zem ν) (zF g (some (.int r.1), zem r.2)) := by
  intro f
  induction f with
  | zero =>
    intro x1 x2 x3 ν r h
    cases h
  | succ f ih =>
    intro x1 x2 x3 ν r h
    rw [Fm_setsGiving_4] at h
    refine z_iload_n dX11_setsGiving_4 3 rfl ?_
    refine z_aload_n dX11_setsGiving_5 0 rfl ?_
    obtain ⟨v1, he1, h⟩ := obind h
    refine y_Vi (M := mX11_setsGiving) (Y := mX11_allCords) (d2 := d - 1) (As := []) (st := [.int x3]) dX11_setsGiving_6 mlRX11_248 cv_X11_allCords zk_0 (ct_Fm_allCords (dle (Nat.le_of_ble_eq_true rfl) hd0) he1) (dps (Nat.le_of_ble_eq_true rfl) hd0) rfl rfl (Nat.le_of_ble_eq_true rfl) ?_
    refine z_icmp_gt 36 dX11_setsGiving_9 rfl (fun hc2 => ?_) (fun hc2 => ?_)
    · replace h := oT hc2 h
      refine z_iload_n dX11_setsGiving_36 2 rfl ?_
      cases h
      exact z_iret dX11_setsGiving_37 rfl
    · replace h := oF hc2 h
      refine z_aload_n dX11_setsGiving_12 0 rfl ?_
      refine y_getR (M := mX11_setsGiving) (r := 276) dX11_setsGiving_13 zk_0 flRX11_50 fr_9_5.1 (fr_9_5.2 _) ?_
      refine z_iload_n dX11_setsGiving_16 3 rfl ?_
      refine z_iload_n dX11_setsGiving_17 1 rfl ?_
      obtain ⟨v3, he3, h⟩ := obind h
      refine y_Vi (M := mX11_setsGiving) (Y := mX4_gives) (d2 := d - 1) (As := [.int x3, .int x1]) (st := []) dX11_setsGiving_18 mlRX11_245 cv_X4_gives zk_276 (ct_Rw_gives (dle (Nat.le_of_ble_eq_true rfl) hd0) he3) (dps (Nat.le_of_ble_eq_true rfl) hd0) rfl rfl (Nat.le_of_ble_eq_true rfl) ?_
      refine z_if_eq 30 dX11_setsGiving_21 rfl (fun hc4 => ?_) (fun hc4 => ?_)
      · replace h := oT hc4 h
        exact t_Fm_setsGiving_30 hd0 ih x1 x2 x3 v3.2 _ h
      · replace h := oF hc4 h
        refine z_iload_n dX11_setsGiving_24 2 rfl ?_
        refine z_iconst (M := mX11_setsGiving) (v := 1) dX11_setsGiving_25 rfl ?_
        refine z_iload_n dX11_setsGiving_26 3 rfl ?_
        refine z_ishl dX11_setsGiving_27 ?_
        refine z_ior dX11_setsGiving_28 ?_
        refine z_istore_n (M := mX11_setsGiving) (lv2 := [(2, .int (x2 ||| ((1 : Int32) <<< (x3 &&& 31)))), (0, .ref 0), (1, .int x1), (3, .int x3)]) dX11_setsGiving_29 (Nat.le_of_ble_eq_true rfl) rfl ?_
        refine z_lv (lv2 := [(0, .ref 0), (1, .int x1), (2, .int (x2 ||| ((1 : Int32) <<< (x3 &&& 31)))), (3, .int x3)]) [1, 2, 0, 3] rfl ?_
        exact t_Fm_setsGiving_30 hd0 ih x1 (x2 ||| ((1 : Int32) <<< (x3 &&& 31))) x3 v3.2 _ h
def Fm_setsGiving (x1 : Int32) (ν : Nm) : Option (Int32 × Nm) :=
  Fm_setsGiving_4 FU x1 (0 : Int32) (1 : Int32) ν
set_option maxRecDepth 100000 in
set_option maxHeartbeats 4000000 in
theorem t_Fm_setsGiving {g : GG} {d : Nat} (hd0 : 206 ≤ d) : ∀ (x1 : Int32) (ν : Nm) (r : (Int32 × Nm)), Fm_setsGiving x1 ν = some r → Z g d (0, 0) mX11_setsGiving 333 0 0 0 [(0, .ref 0), (1, .int x1)] [] (zem ν) (zF g (some (.int r.1), zem r.2)) := by
  intro x1 ν r h
  unfold Fm_setsGiving at h
  refine z_iconst (M := mX11_setsGiving) (v := 0) dX11_setsGiving_0 rfl ?_
  refine z_istore_n (M := mX11_setsGiving) (lv2 := [(2, .int (0 : Int32)), (0, .ref 0), (1, .int x1)]) dX11_setsGiving_1 (Nat.le_of_ble_eq_true rfl) rfl ?_
  refine z_iconst (M := mX11_setsGiving) (v := 1) dX11_setsGiving_2 rfl ?_
  refine z_istore_n (M := mX11_setsGiving) (lv2 := [(3, .int (1 : Int32)), (2, .int (0 : Int32)), (0, .ref 0), (1, .int x1)]) dX11_setsGiving_3 (Nat.le_of_ble_eq_true rfl) rfl ?_
  refine z_lv (lv2 := [(0, .ref 0), (1, .int x1), (2, .int (0 : Int32)), (3, .int (1 : Int32))]) [2, 3, 1, 0] rfl ?_
  exact t_Fm_setsGiving_4 hd0 FU x1 (0 : Int32) (1 : Int32) ν _ h
theorem ct_Fm_setsGiving {g : GG} {d : Nat} {x1 : Int32} {ν : Nm} {r : (Int32 × Nm)} (hd0 : 206 ≤ d)  (h : Fm_setsGiving x1 ν = some r) : Ct g d mX11_setsGiving [.ref 0, .int x1] (zem ν) (some (.int r.1), zem r.2) := y_entry in_X11_setsGiving (Nat.le_of_ble_eq_true rfl) rfl (t_Fm_setsGiving hd0 x1 ν r h)
-- FuseMinutes.findBundle()Z
theorem dX11_findBundle_0 : decode cX11_findBundle 0 = .ok (.aload_n 0, 1) := by decide +kernel
theorem dX11_findBundle_1 : decode cX11_findBundle 1 = .ok (.getfield 12, 3) := by decide +kernel
theorem dX11_findBundle_4 : decode cX11_findBundle 4 = .ok (.getfield 272, 3) := by decide +kernel
theorem dX11_findBundle_7 : decode cX11_findBundle 7 = .ok (.getfield 276, 3) := by decide +kernel
theorem dX11_findBundle_10 : decode cX11_findBundle 10 = .ok (.istore_n 1, 1) := by decide +kernel
theorem dX11_findBundle_11 : decode cX11_findBundle 11 = .ok (.aload_n 0, 1) := by decide +kernel
theorem dX11_findBundle_12 : decode cX11_findBundle 12 = .ok (.getfield 57, 3) := by decide +kernel
theorem dX11_findBundle_15 : decode cX11_findBundle 15 = .ok (.iload_n 1, 1) := by decide +kernel
theorem dX11_findBundle_16 : decode cX11_findBundle 16 = .ok (.invokevirtual 388, 3) := by decide +kernel
theorem dX11_findBundle_19 : decode cX11_findBundle 19 = .ok (.iconst 0, 1) := by decide +kernel
theorem dX11_findBundle_20 : decode cX11_findBundle 20 = .ok (.istore_n 2, 1) := by decide +kernel
theorem dX11_findBundle_21 : decode cX11_findBundle 21 = .ok (.iload_n 2, 1) := by decide +kernel
theorem dX11_findBundle_22 : decode cX11_findBundle 22 = .ok (.iload_n 1, 1) := by decide +kernel
theorem dX11_findBundle_23 : decode cX11_findBundle 23 = .ok (.if_icmp .ge 39, 3) := by decide +kernel
theorem dX11_findBundle_26 : decode cX11_findBundle 26 = .ok (.iload_n 2, 1) := by decide +kernel
theorem dX11_findBundle_27 : decode cX11_findBundle 27 = .ok (.iconst 4, 1) := by decide +kernel
theorem dX11_findBundle_28 : decode cX11_findBundle 28 = .ok (.if_icmp .ge 34, 3) := by decide +kernel
theorem dX11_findBundle_31 : decode cX11_findBundle 31 = .ok (.aload_n 0, 1) := by decide +kernel
theorem dX11_findBundle_32 : decode cX11_findBundle 32 = .ok (.getfield 57, 3) := by decide +kernel
theorem dX11_findBundle_35 : decode cX11_findBundle 35 = .ok (.getfield 391, 3) := by decide +kernel
theorem dX11_findBundle_38 : decode cX11_findBundle 38 = .ok (.iload_n 2, 1) := by decide +kernel
theorem dX11_findBundle_39 : decode cX11_findBundle 39 = .ok (.aload_n 0, 1) := by decide +kernel
theorem dX11_findBundle_40 : decode cX11_findBundle 40 = .ok (.aload_n 0, 1) := by decide +kernel
theorem dX11_findBundle_41 : decode cX11_findBundle 41 = .ok (.getfield 12, 3) := by decide +kernel
theorem dX11_findBundle_44 : decode cX11_findBundle 44 = .ok (.getfield 272, 3) := by decide +kernel
theorem dX11_findBundle_47 : decode cX11_findBundle 47 = .ok (.getfield 394, 3) := by decide +kernel
theorem dX11_findBundle_50 : decode cX11_findBundle 50 = .ok (.iload_n 2, 1) := by decide +kernel
theorem dX11_findBundle_51 : decode cX11_findBundle 51 = .ok (.iaload, 1) := by decide +kernel
theorem dX11_findBundle_52 : decode cX11_findBundle 52 = .ok (.invokevirtual 291, 3) := by decide +kernel
theorem dX11_findBundle_55 : decode cX11_findBundle 55 = .ok (.iastore, 1) := by decide +kernel
theorem dX11_findBundle_56 : decode cX11_findBundle 56 = .ok (.iinc 2 1, 3) := by decide +kernel
theorem dX11_findBundle_59 : decode cX11_findBundle 59 = .ok (.goto (-38), 3) := by decide +kernel
theorem dX11_findBundle_62 : decode cX11_findBundle 62 = .ok (.aload_n 0, 1) := by decide +kernel
theorem dX11_findBundle_63 : decode cX11_findBundle 63 = .ok (.getfield 57, 3) := by decide +kernel
theorem dX11_findBundle_66 : decode cX11_findBundle 66 = .ok (.aload_n 0, 1) := by decide +kernel
theorem dX11_findBundle_67 : decode cX11_findBundle 67 = .ok (.getfield 12, 3) := by decide +kernel
theorem dX11_findBundle_70 : decode cX11_findBundle 70 = .ok (.aload_n 0, 1) := by decide +kernel
theorem dX11_findBundle_71 : decode cX11_findBundle 71 = .ok (.getfield 12, 3) := by decide +kernel
theorem dX11_findBundle_74 : decode cX11_findBundle 74 = .ok (.getfield 62, 3) := by decide +kernel
theorem dX11_findBundle_77 : decode cX11_findBundle 77 = .ok (.getfield 66, 3) := by decide +kernel
theorem dX11_findBundle_80 : decode cX11_findBundle 80 = .ok (.invokevirtual 397, 3) := by decide +kernel
theorem dX11_findBundle_83 : decode cX11_findBundle 83 = .ok (.ireturn, 1) := by decide +kernel
def Fm_findBundle_62 (ν : Nm) : Option (Bool × Nm) :=
  (Bu_find 1 (gi ν 2 0) ν).bind fun v1 =>
  some (v1.1, v1.2)
set_option maxRecDepth 100000 in
set_option maxHeartbeats 4000000 in
theorem t_Fm_findBundle_62 {g : GG} {d : Nat} (hd0 : 207 ≤ d) : ∀ (ν : Nm) (r : (Bool × Nm)), Fm_findBundle_62 ν = some r → Z g d (0, 0) mX11_findBundle 333 0 0 62 [(0, .ref 0)] [] (zem ν) (zF g (some (.int (b2i r.1)), zem r.2)) := by
  intro ν r h
  unfold Fm_findBundle_62 at h
  refine z_aload_n dX11_findBundle_62 0 rfl ?_
  refine y_getR (M := mX11_findBundle) (r := 282) dX11_findBundle_63 zk_0 flRX11_57 fr_9_6.1 (fr_9_6.2 _) ?_
  refine z_aload_n dX11_findBundle_66 0 rfl ?_
  refine y_getR (M := mX11_findBundle) (r := 1) dX11_findBundle_67 zk_0 flRX11_12 fr_9_0.1 (fr_9_0.2 _) ?_
  refine z_aload_n dX11_findBundle_70 0 rfl ?_
  refine y_getR (M := mX11_findBundle) (r := 1) dX11_findBundle_71 zk_0 flRX11_12 fr_9_0.1 (fr_9_0.2 _) ?_
  refine y_getR (M := mX11_findBundle) (r := 2) dX11_findBundle_74 zk_1 flRX11_62 fr_5_0.1 (fr_5_0.2 _) ?_
  refine y_getI dX11_findBundle_77 zk_2 flRX11_66 ?_
  obtain ⟨v1, he1, h⟩ := obind h
  refine y_Vi (M := mX11_findBundle) (Y := mX0_find) (d2 := d - 1) (As := [.ref 1, .int (gi ν 2 0)]) (st := []) dX11_findBundle_80 mlRX11_397 cv_X0_find zk_282 (ct_Bu_find (dle (Nat.le_of_ble_eq_true rfl) hd0) zk_1 he1) (dps (Nat.le_of_ble_eq_true rfl) hd0) rfl rfl (Nat.le_of_ble_eq_true rfl) ?_
  cases h
  exact z_zret dX11_findBundle_83 rfl (nar_b2i _)
def Fm_findBundle_21 : Nat → Int32 → Int32 → Nm → Option (Bool × Nm)
  | 0, _, _, _ => none
  | f + 1, x1, x2, ν =>
    (if x1 ≤ x2 then
      Fm_findBundle_62 ν
    else
      (if (4 : Int32) ≤ x2 then
        Fm_findBundle_62 ν
      else
        if inb x2 4 then
        (Fm_setsGiving (gi ν 131 x2.toNatClampNeg) ν).bind fun v4 =>
        if inb x2 4 then
        (Fm_findBundle_21 f) x1 (x2 + (1 : Int32)) (si v4.2 283 x2.toNatClampNeg v4.1)
        else none
        else none))
set_option maxRecDepth 100000 in
set_option maxHeartbeats 4000000 in
theorem t_Fm_findBundle_21 {g : GG} {d : Nat} (hd0 : 207 ≤ d) : ∀ (f : Nat), ∀ (x1 : Int32) (x2 : Int32) (ν : Nm) (r : (Bool × Nm)), Fm_findBundle_21 f x1 x2 ν = some r → Z g d (0, 0) mX11_findBundle 333 0 0 21 [(0, .ref 0), (1, .int x1), (2, .int x2)] [] (zem ν) (zF g (some (.int (b2i r.1)), zem r.2)) := by
  intro f
  induction f with
  | zero =>
    intro x1 x2 ν r h
    cases h
  | succ f ih =>
    intro x1 x2 ν r h
    rw [Fm_findBundle_21] at h
    refine z_iload_n dX11_findBundle_21 2 rfl ?_
    refine z_iload_n dX11_findBundle_22 1 rfl ?_
    refine z_icmp_ge 62 dX11_findBundle_23 rfl (fun hc1 => ?_) (fun hc1 => ?_)
    · replace h := oT hc1 h
      refine z_lv (lv2 := [(0, .ref 0)]) [0] rfl ?_
      exact t_Fm_findBundle_62 hd0  ν _ h
    · replace h := oF hc1 h
      refine z_iload_n dX11_findBundle_26 2 rfl ?_
      refine z_iconst (M := mX11_findBundle) (v := 4) dX11_findBundle_27 rfl ?_
      refine z_icmp_ge 62 dX11_findBundle_28 rfl (fun hc2 => ?_) (fun hc2 => ?_)
      · replace h := oT hc2 h
        refine z_lv (lv2 := [(0, .ref 0)]) [0] rfl ?_
        exact t_Fm_findBundle_62 hd0  ν _ h
      · replace h := oF hc2 h
        refine z_aload_n dX11_findBundle_31 0 rfl ?_
        refine y_getR (M := mX11_findBundle) (r := 282) dX11_findBundle_32 zk_0 flRX11_57 fr_9_6.1 (fr_9_6.2 _) ?_
        refine y_getR (M := mX11_findBundle) (r := 283) dX11_findBundle_35 zk_282 flRX11_391 fr_0_0.1 (fr_0_0.2 _) ?_
        refine z_iload_n dX11_findBundle_38 2 rfl ?_
        refine z_aload_n dX11_findBundle_39 0 rfl ?_
        refine z_aload_n dX11_findBundle_40 0 rfl ?_
        refine y_getR (M := mX11_findBundle) (r := 1) dX11_findBundle_41 zk_0 flRX11_12 fr_9_0.1 (fr_9_0.2 _) ?_
        refine y_getR (M := mX11_findBundle) (r := 130) dX11_findBundle_44 zk_1 flRX11_272 fr_5_8.1 (fr_5_8.2 _) ?_
        refine y_getR (M := mX11_findBundle) (r := 131) dX11_findBundle_47 zk_130 flRX11_394 fr_8_0.1 (fr_8_0.2 _) ?_
        refine z_iload_n dX11_findBundle_50 2 rfl ?_
        obtain ⟨hi3, h⟩ := oif h
        refine y_iald (M := mX11_findBundle) (jj := x2.toNatClampNeg) dX11_findBundle_51 zk_131 hi3 rfl ?_
        obtain ⟨v4, he4, h⟩ := obind h
        refine y_Vi (M := mX11_findBundle) (Y := mX11_setsGiving) (d2 := d - 1) (As := [.int (gi ν 131 x2.toNatClampNeg)]) (st := [.int x2, .ref 283]) dX11_findBundle_52 mlRX11_291 cv_X11_setsGiving zk_0 (ct_Fm_setsGiving (dle (Nat.le_of_ble_eq_true rfl) hd0) he4) (dps (Nat.le_of_ble_eq_true rfl) hd0) rfl rfl (Nat.le_of_ble_eq_true rfl) ?_
        obtain ⟨hi5, h⟩ := oif h
        refine y_iast (M := mX11_findBundle) (jj := x2.toNatClampNeg) dX11_findBundle_55 zk_283 hi5 rfl ?_
        refine z_iinc (M := mX11_findBundle) (v := (x2 + (1 : Int32))) (lv2 := [(2, .int (x2 + (1 : Int32))), (0, .ref 0), (1, .int x1)]) dX11_findBundle_56 2 rfl rfl (Nat.le_of_ble_eq_true rfl) rfl ?_
        refine z_goto 21 dX11_findBundle_59 rfl ?_
        refine z_lv (lv2 := [(0, .ref 0), (1, .int x1), (2, .int (x2 + (1 : Int32)))]) [1, 2, 0] rfl ?_
        exact ih x1 (x2 + (1 : Int32)) (si v4.2 283 x2.toNatClampNeg v4.1) _ h
def Fm_findBundle (ν : Nm) : Option (Bool × Nm) :=
  (Bu_begin (gi ν 130 1) ν).bind fun v1 =>
  Fm_findBundle_21 FU (gi ν 130 1) (0 : Int32) v1
set_option maxRecDepth 100000 in
set_option maxHeartbeats 4000000 in
theorem t_Fm_findBundle {g : GG} {d : Nat} (hd0 : 207 ≤ d) : ∀ (ν : Nm) (r : (Bool × Nm)), Fm_findBundle ν = some r → Z g d (0, 0) mX11_findBundle 333 0 0 0 [(0, .ref 0)] [] (zem ν) (zF g (some (.int (b2i r.1)), zem r.2)) := by
  intro ν r h
  unfold Fm_findBundle at h
  refine z_aload_n dX11_findBundle_0 0 rfl ?_
  refine y_getR (M := mX11_findBundle) (r := 1) dX11_findBundle_1 zk_0 flRX11_12 fr_9_0.1 (fr_9_0.2 _) ?_
  refine y_getR (M := mX11_findBundle) (r := 130) dX11_findBundle_4 zk_1 flRX11_272 fr_5_8.1 (fr_5_8.2 _) ?_
  refine y_getI dX11_findBundle_7 zk_130 flRX11_276 ?_
  refine z_istore_n (M := mX11_findBundle) (lv2 := [(1, .int (gi ν 130 1)), (0, .ref 0)]) dX11_findBundle_10 (Nat.le_of_ble_eq_true rfl) rfl ?_
  refine z_aload_n dX11_findBundle_11 1 rfl ?_
  refine y_getR (M := mX11_findBundle) (r := 282) dX11_findBundle_12 zk_0 flRX11_57 fr_9_6.1 (fr_9_6.2 _) ?_
  refine z_iload_n dX11_findBundle_15 0 rfl ?_
  obtain ⟨v1, he1, h⟩ := obind h
  refine y_Vv (M := mX11_findBundle) (Y := mX0_begin) (d2 := d - 1) (As := [.int (gi ν 130 1)]) (st := []) dX11_findBundle_16 mlRX11_388 cv_X0_begin zk_282 (ct_Bu_begin (dle (Nat.le_of_ble_eq_true rfl) hd0) he1) (dps (Nat.le_of_ble_eq_true rfl) hd0) rfl rfl (Nat.le_of_ble_eq_true rfl) ?_
  refine z_iconst (M := mX11_findBundle) (v := 0) dX11_findBundle_19 rfl ?_
  refine z_istore_n (M := mX11_findBundle) (lv2 := [(2, .int (0 : Int32)), (1, .int (gi ν 130 1)), (0, .ref 0)]) dX11_findBundle_20 (Nat.le_of_ble_eq_true rfl) rfl ?_
  refine z_lv (lv2 := [(0, .ref 0), (1, .int (gi ν 130 1)), (2, .int (0 : Int32))]) [2, 1, 0] rfl ?_
  exact t_Fm_findBundle_21 hd0 FU (gi ν 130 1) (0 : Int32) v1 _ h
theorem ct_Fm_findBundle {g : GG} {d : Nat} {ν : Nm} {r : (Bool × Nm)} (hd0 : 207 ≤ d)  (h : Fm_findBundle ν = some r) : Ct g d mX11_findBundle [.ref 0] (zem ν) (some (.int (b2i r.1)), zem r.2) := y_entry in_X11_findBundle (Nat.le_of_ble_eq_true rfl) rfl (t_Fm_findBundle hd0 ν r h)
-- FuseMinutes.bundle(Z)I
theorem dX11_bundle_0 : decode cX11_bundle 0 = .ok (.aload_n 0, 1) := by decide +kernel
theorem dX11_bundle_1 : decode cX11_bundle 1 = .ok (.invokevirtual 282, 3) := by decide +kernel
theorem dX11_bundle_4 : decode cX11_bundle 4 = .ok (.ifCond .ne 5, 3) := by decide +kernel
theorem dX11_bundle_7 : decode cX11_bundle 7 = .ok (.iconst (-1), 1) := by decide +kernel
theorem dX11_bundle_8 : decode cX11_bundle 8 = .ok (.ireturn, 1) := by decide +kernel
theorem dX11_bundle_9 : decode cX11_bundle 9 = .ok (.iload_n 1, 1) := by decide +kernel
theorem dX11_bundle_10 : decode cX11_bundle 10 = .ok (.ifCond .eq 20, 3) := by decide +kernel
theorem dX11_bundle_13 : decode cX11_bundle 13 = .ok (.aload_n 0, 1) := by decide +kernel
theorem dX11_bundle_14 : decode cX11_bundle 14 = .ok (.getfield 12, 3) := by decide +kernel
theorem dX11_bundle_17 : decode cX11_bundle 17 = .ok (.aload_n 0, 1) := by decide +kernel
theorem dX11_bundle_18 : decode cX11_bundle 18 = .ok (.getfield 57, 3) := by decide +kernel
theorem dX11_bundle_21 : decode cX11_bundle 21 = .ok (.invokevirtual 286, 3) := by decide +kernel
theorem dX11_bundle_24 : decode cX11_bundle 24 = .ok (.invokevirtual 251, 3) := by decide +kernel
theorem dX11_bundle_27 : decode cX11_bundle 27 = .ok (.goto 10, 3) := by decide +kernel
theorem dX11_bundle_30 : decode cX11_bundle 30 = .ok (.aload_n 0, 1) := by decide +kernel
theorem dX11_bundle_31 : decode cX11_bundle 31 = .ok (.getfield 57, 3) := by decide +kernel
theorem dX11_bundle_34 : decode cX11_bundle 34 = .ok (.invokevirtual 286, 3) := by decide +kernel
theorem dX11_bundle_37 : decode cX11_bundle 37 = .ok (.ireturn, 1) := by decide +kernel
def Fm_bundle (x1 : Int32) (ν : Nm) : Option (Int32 × Nm) :=
  (Fm_findBundle ν).bind fun v1 =>
  (if ¬ (b2i v1.1) = 0 then
    (if x1 = 0 then
      (Bu_cords v1.2).bind fun v4 =>
      some (v4, v1.2)
    else
      (Bu_cords v1.2).bind fun v5 =>
      (So_priceOf v1.2 1 v5).bind fun v6 =>
      some (v6, v1.2))
  else
    some ((-1 : Int32), v1.2))
set_option maxRecDepth 100000 in
set_option maxHeartbeats 4000000 in
theorem t_Fm_bundle {g : GG} {d : Nat} (hd0 : 208 ≤ d) : ∀ (x1 : Int32) (ν : Nm) (r : (Int32 × Nm)), Fm_bundle x1 ν = some r → Z g d (0, 0) mX11_bundle 333 0 0 0 [(0, .ref 0), (1, .int x1)] [] (zem ν) (zF g (some (.int r.1), zem r.2)) := by
  intro x1 ν r h
  unfold Fm_bundle at h
  refine z_aload_n dX11_bundle_0 0 rfl ?_
  obtain ⟨v1, he1, h⟩ := obind h
  refine y_Vi (M := mX11_bundle) (Y := mX11_findBundle) (d2 := d - 1) (As := []) (st := []) dX11_bundle_1 mlRX11_282 cv_X11_findBundle zk_0 (ct_Fm_findBundle (dle (Nat.le_of_ble_eq_true rfl) hd0) he1) (dps (Nat.le_of_ble_eq_true rfl) hd0) rfl rfl (Nat.le_of_ble_eq_true rfl) ?_
  refine z_if_ne 9 dX11_bundle_4 rfl (fun hc2 => ?_) (fun hc2 => ?_)
  · replace h := oT hc2 h
    refine z_iload_n dX11_bundle_9 1 rfl ?_
    refine z_if_eq 30 dX11_bundle_10 rfl (fun hc3 => ?_) (fun hc3 => ?_)
    · replace h := oT hc3 h
      refine z_aload_n dX11_bundle_30 0 rfl ?_
      refine y_getR (M := mX11_bundle) (r := 282) dX11_bundle_31 zk_0 flRX11_57 fr_9_6.1 (fr_9_6.2 _) ?_
      obtain ⟨v4, he4, h⟩ := obind h
      refine y_Vi (M := mX11_bundle) (Y := mX0_cords) (d2 := d - 1) (As := []) (st := []) dX11_bundle_34 mlRX11_286 cv_X0_cords zk_282 (ct_Bu_cords (dle (Nat.le_of_ble_eq_true rfl) hd0) he4) (dps (Nat.le_of_ble_eq_true rfl) hd0) rfl rfl (Nat.le_of_ble_eq_true rfl) ?_
      cases h
      exact z_iret dX11_bundle_37 rfl
    · replace h := oF hc3 h
      refine z_aload_n dX11_bundle_13 0 rfl ?_
      refine y_getR (M := mX11_bundle) (r := 1) dX11_bundle_14 zk_0 flRX11_12 fr_9_0.1 (fr_9_0.2 _) ?_
      refine z_aload_n dX11_bundle_17 0 rfl ?_
      refine y_getR (M := mX11_bundle) (r := 282) dX11_bundle_18 zk_0 flRX11_57 fr_9_6.1 (fr_9_6.2 _) ?_
      obtain ⟨v5, he5, h⟩ := obind h
      refine y_Vi (M := mX11_bundle) (Y := mX0_cords) (d2 := d - 1) (As := []) (st := [.ref 1]) dX11_bundle_21 mlRX11_286 cv_X0_cords zk_282 (ct_Bu_cords (dle (Nat.le_of_ble_eq_true rfl) hd0) he5) (dps (Nat.le_of_ble_eq_true rfl) hd0) rfl rfl (Nat.le_of_ble_eq_true rfl) ?_
      obtain ⟨v6, he6, h⟩ := obind h
      refine y_Vi (M := mX11_bundle) (Y := mX6_priceOf) (d2 := d - 1) (As := [.int v5]) (st := []) dX11_bundle_24 mlRX11_251 cv_X6_priceOf zk_1 (ct_So_priceOf (dle (Nat.le_of_ble_eq_true rfl) hd0) zk_1 he6) (dps (Nat.le_of_ble_eq_true rfl) hd0) rfl rfl (Nat.le_of_ble_eq_true rfl) ?_
      refine z_goto 37 dX11_bundle_27 rfl ?_
      cases h
      exact z_iret dX11_bundle_37 rfl
  · replace h := oFn hc2 h
    refine z_iconst (M := mX11_bundle) (v := -1) dX11_bundle_7 rfl ?_
    cases h
    exact z_iret dX11_bundle_8 rfl
theorem ct_Fm_bundle {g : GG} {d : Nat} {x1 : Int32} {ν : Nm} {r : (Int32 × Nm)} (hd0 : 208 ≤ d)  (h : Fm_bundle x1 ν = some r) : Ct g d mX11_bundle [.ref 0, .int x1] (zem ν) (some (.int r.1), zem r.2) := y_entry in_X11_bundle (Nat.le_of_ble_eq_true rfl) rfl (t_Fm_bundle hd0 x1 ν r h)
-- FuseMinutes.part(I)I
theorem dX11_part_0 : decode cX11_part 0 = .ok (.iload_n 1, 1) := by decide +kernel
theorem dX11_part_1 : decode cX11_part 1 = .ok (.ifCond .lt 24, 3) := by decide +kernel
theorem dX11_part_4 : decode cX11_part 4 = .ok (.iload_n 1, 1) := by decide +kernel
theorem dX11_part_5 : decode cX11_part 5 = .ok (.aload_n 0, 1) := by decide +kernel
theorem dX11_part_6 : decode cX11_part 6 = .ok (.getfield 12, 3) := by decide +kernel
theorem dX11_part_9 : decode cX11_part 9 = .ok (.getfield 272, 3) := by decide +kernel
theorem dX11_part_12 : decode cX11_part 12 = .ok (.getfield 276, 3) := by decide +kernel
theorem dX11_part_15 : decode cX11_part 15 = .ok (.if_icmp .ge 10, 3) := by decide +kernel
theorem dX11_part_18 : decode cX11_part 18 = .ok (.aload_n 0, 1) := by decide +kernel
theorem dX11_part_19 : decode cX11_part 19 = .ok (.invokevirtual 282, 3) := by decide +kernel
theorem dX11_part_22 : decode cX11_part 22 = .ok (.ifCond .ne 5, 3) := by decide +kernel
theorem dX11_part_25 : decode cX11_part 25 = .ok (.iconst (-1), 1) := by decide +kernel
theorem dX11_part_26 : decode cX11_part 26 = .ok (.ireturn, 1) := by decide +kernel
theorem dX11_part_27 : decode cX11_part 27 = .ok (.aload_n 0, 1) := by decide +kernel
theorem dX11_part_28 : decode cX11_part 28 = .ok (.getfield 57, 3) := by decide +kernel
theorem dX11_part_31 : decode cX11_part 31 = .ok (.iload_n 1, 1) := by decide +kernel
theorem dX11_part_32 : decode cX11_part 32 = .ok (.invokevirtual 288, 3) := by decide +kernel
theorem dX11_part_35 : decode cX11_part 35 = .ok (.ireturn, 1) := by decide +kernel
def Fm_part (x1 : Int32) (ν : Nm) : Option (Int32 × Nm) :=
  (if x1 < 0 then
    some ((-1 : Int32), ν)
  else
    (if (gi ν 130 1) ≤ x1 then
      some ((-1 : Int32), ν)
    else
      (Fm_findBundle ν).bind fun v3 =>
      (if ¬ (b2i v3.1) = 0 then
        (Bu_share v3.2 x1).bind fun v5 =>
        some (v5, v3.2)
      else
        some ((-1 : Int32), v3.2))))
set_option maxRecDepth 100000 in
set_option maxHeartbeats 4000000 in
theorem t_Fm_part {g : GG} {d : Nat} (hd0 : 208 ≤ d) : ∀ (x1 : Int32) (ν : Nm) (r : (Int32 × Nm)), Fm_part x1 ν = some r → Z g d (0, 0) mX11_part 333 0 0 0 [(0, .ref 0), (1, .int x1)] [] (zem ν) (zF g (some (.int r.1), zem r.2)) := by
  intro x1 ν r h
  unfold Fm_part at h
  refine z_iload_n dX11_part_0 1 rfl ?_
  refine z_if_lt 25 dX11_part_1 rfl (fun hc1 => ?_) (fun hc1 => ?_)
  · replace h := oT hc1 h
    refine z_iconst (M := mX11_part) (v := -1) dX11_part_25 rfl ?_
    cases h
    exact z_iret dX11_part_26 rfl
  · replace h := oF hc1 h
    refine z_iload_n dX11_part_4 1 rfl ?_
    refine z_aload_n dX11_part_5 0 rfl ?_
    refine y_getR (M := mX11_part) (r := 1) dX11_part_6 zk_0 flRX11_12 fr_9_0.1 (fr_9_0.2 _) ?_
    refine y_getR (M := mX11_part) (r := 130) dX11_part_9 zk_1 flRX11_272 fr_5_8.1 (fr_5_8.2 _) ?_
    refine y_getI dX11_part_12 zk_130 flRX11_276 ?_
    refine z_icmp_ge 25 dX11_part_15 rfl (fun hc2 => ?_) (fun hc2 => ?_)
    · replace h := oT hc2 h
      refine z_iconst (M := mX11_part) (v := -1) dX11_part_25 rfl ?_
      cases h
      exact z_iret dX11_part_26 rfl
    · replace h := oF hc2 h
      refine z_aload_n dX11_part_18 0 rfl ?_
      obtain ⟨v3, he3, h⟩ := obind h
      refine y_Vi (M := mX11_part) (Y := mX11_findBundle) (d2 := d - 1) (As := []) (st := []) dX11_part_19 mlRX11_282 cv_X11_findBundle zk_0 (ct_Fm_findBundle (dle (Nat.le_of_ble_eq_true rfl) hd0) he3) (dps (Nat.le_of_ble_eq_true rfl) hd0) rfl rfl (Nat.le_of_ble_eq_true rfl) ?_
      refine z_if_ne 27 dX11_part_22 rfl (fun hc4 => ?_) (fun hc4 => ?_)
      · replace h := oT hc4 h
        refine z_aload_n dX11_part_27 0 rfl ?_
        refine y_getR (M := mX11_part) (r := 282) dX11_part_28 zk_0 flRX11_57 fr_9_6.1 (fr_9_6.2 _) ?_
        refine z_iload_n dX11_part_31 1 rfl ?_
        obtain ⟨v5, he5, h⟩ := obind h
        refine y_Vi (M := mX11_part) (Y := mX0_share) (d2 := d - 1) (As := [.int x1]) (st := []) dX11_part_32 mlRX11_288 cv_X0_share zk_282 (ct_Bu_share (dle (Nat.le_of_ble_eq_true rfl) hd0) he5) (dps (Nat.le_of_ble_eq_true rfl) hd0) rfl rfl (Nat.le_of_ble_eq_true rfl) ?_
        cases h
        exact z_iret dX11_part_35 rfl
      · replace h := oFn hc4 h
        refine z_iconst (M := mX11_part) (v := -1) dX11_part_25 rfl ?_
        cases h
        exact z_iret dX11_part_26 rfl
theorem ct_Fm_part {g : GG} {d : Nat} {x1 : Int32} {ν : Nm} {r : (Int32 × Nm)} (hd0 : 208 ≤ d)  (h : Fm_part x1 ν = some r) : Ct g d mX11_part [.ref 0, .int x1] (zem ν) (some (.int r.1), zem r.2) := y_entry in_X11_part (Nat.le_of_ble_eq_true rfl) rfl (t_Fm_part hd0 x1 ν r h)
-- FuseMinutes.crews(II)I
theorem dX11_crews_0 : decode cX11_crews 0 = .ok (.iload_n 1, 1) := by decide +kernel
theorem dX11_crews_1 : decode cX11_crews 1 = .ok (.invokestatic 266, 3) := by decide +kernel
theorem dX11_crews_4 : decode cX11_crews 4 = .ok (.ifCond .eq 10, 3) := by decide +kernel
theorem dX11_crews_7 : decode cX11_crews 7 = .ok (.iload_n 2, 1) := by decide +kernel
theorem dX11_crews_8 : decode cX11_crews 8 = .ok (.invokestatic 266, 3) := by decide +kernel
theorem dX11_crews_11 : decode cX11_crews 11 = .ok (.ifCond .ne 6, 3) := by decide +kernel
theorem dX11_crews_14 : decode cX11_crews 14 = .ok (.bipush (-2), 2) := by decide +kernel
theorem dX11_crews_16 : decode cX11_crews 16 = .ok (.ireturn, 1) := by decide +kernel
theorem dX11_crews_17 : decode cX11_crews 17 = .ok (.iconst 0, 1) := by decide +kernel
theorem dX11_crews_18 : decode cX11_crews 18 = .ok (.iconst 0, 1) := by decide +kernel
theorem dX11_crews_19 : decode cX11_crews 19 = .ok (.aload_n 0, 1) := by decide +kernel
theorem dX11_crews_20 : decode cX11_crews 20 = .ok (.iload_n 1, 1) := by decide +kernel
theorem dX11_crews_21 : decode cX11_crews 21 = .ok (.invokevirtual 291, 3) := by decide +kernel
theorem dX11_crews_24 : decode cX11_crews 24 = .ok (.aload_n 0, 1) := by decide +kernel
theorem dX11_crews_25 : decode cX11_crews 25 = .ok (.iload_n 2, 1) := by decide +kernel
theorem dX11_crews_26 : decode cX11_crews 26 = .ok (.invokevirtual 291, 3) := by decide +kernel
theorem dX11_crews_29 : decode cX11_crews 29 = .ok (.aload_n 0, 1) := by decide +kernel
theorem dX11_crews_30 : decode cX11_crews 30 = .ok (.invokevirtual 248, 3) := by decide +kernel
theorem dX11_crews_33 : decode cX11_crews 33 = .ok (.invokestatic 294, 3) := by decide +kernel
theorem dX11_crews_36 : decode cX11_crews 36 = .ok (.ireturn, 1) := by decide +kernel
def Fm_crews (x1 : Int32) (x2 : Int32) (ν : Nm) : Option (Int32 × Nm) :=
  (Fm_isSpan x1).bind fun v1 =>
  (if (b2i v1) = 0 then
    some ((-2 : Int32), ν)
  else
    (Fm_isSpan x2).bind fun v3 =>
    (if ¬ (b2i v3) = 0 then
      (Fm_setsGiving x1 ν).bind fun v5 =>
      (Fm_setsGiving x2 v5.2).bind fun v6 =>
      (Fm_allCords v6.2).bind fun v7 =>
      (G_cr FR 0 (0 : Int32) (0 : Int32) v5.1 v6.1 v7).bind fun v8 =>
      some (v8, v6.2)
    else
      some ((-2 : Int32), ν)))
set_option maxRecDepth 100000 in
set_option maxHeartbeats 4000000 in
theorem t_Fm_crews {g : GG} {d : Nat} (hd0 : 207 ≤ d) : ∀ (x1 : Int32) (x2 : Int32) (ν : Nm) (r : (Int32 × Nm)), Fm_crews x1 x2 ν = some r → Z g d (0, 0) mX11_crews 333 0 0 0 [(0, .ref 0), (1, .int x1), (2, .int x2)] [] (zem ν) (zF g (some (.int r.1), zem r.2)) := by
  intro x1 x2 ν r h
  unfold Fm_crews at h
  refine z_iload_n dX11_crews_0 1 rfl ?_
  obtain ⟨v1, he1, h⟩ := obind h
  refine y_Si (M := mX11_crews) (Y := mX11_isSpan) (d2 := d - 1) (As := [.int x1]) (st := []) dX11_crews_1 mlRX11_266 cv_X11_isSpan (ct_Fm_isSpan (dle (Nat.le_of_ble_eq_true rfl) hd0) he1) (dps (Nat.le_of_ble_eq_true rfl) hd0) rfl rfl (Nat.le_of_ble_eq_true rfl) ?_
  refine z_if_eq 14 dX11_crews_4 rfl (fun hc2 => ?_) (fun hc2 => ?_)
  · replace h := oT hc2 h
    refine z_bipush (M := mX11_crews) (v := -2) dX11_crews_14 rfl ?_
    cases h
    exact z_iret dX11_crews_16 rfl
  · replace h := oF hc2 h
    refine z_iload_n dX11_crews_7 2 rfl ?_
    obtain ⟨v3, he3, h⟩ := obind h
    refine y_Si (M := mX11_crews) (Y := mX11_isSpan) (d2 := d - 1) (As := [.int x2]) (st := []) dX11_crews_8 mlRX11_266 cv_X11_isSpan (ct_Fm_isSpan (dle (Nat.le_of_ble_eq_true rfl) hd0) he3) (dps (Nat.le_of_ble_eq_true rfl) hd0) rfl rfl (Nat.le_of_ble_eq_true rfl) ?_
    refine z_if_ne 17 dX11_crews_11 rfl (fun hc4 => ?_) (fun hc4 => ?_)
    · replace h := oT hc4 h
      refine z_iconst (M := mX11_crews) (v := 0) dX11_crews_17 rfl ?_
      refine z_iconst (M := mX11_crews) (v := 0) dX11_crews_18 rfl ?_
      refine z_aload_n dX11_crews_19 0 rfl ?_
      refine z_iload_n dX11_crews_20 1 rfl ?_
      obtain ⟨v5, he5, h⟩ := obind h
      refine y_Vi (M := mX11_crews) (Y := mX11_setsGiving) (d2 := d - 1) (As := [.int x1]) (st := [.int (0 : Int32), .int (0 : Int32)]) dX11_crews_21 mlRX11_291 cv_X11_setsGiving zk_0 (ct_Fm_setsGiving (dle (Nat.le_of_ble_eq_true rfl) hd0) he5) (dps (Nat.le_of_ble_eq_true rfl) hd0) rfl rfl (Nat.le_of_ble_eq_true rfl) ?_
      refine z_aload_n dX11_crews_24 0 rfl ?_
      refine z_iload_n dX11_crews_25 2 rfl ?_
      obtain ⟨v6, he6, h⟩ := obind h
      refine y_Vi (M := mX11_crews) (Y := mX11_setsGiving) (d2 := d - 1) (As := [.int x2]) (st := [.int v5.1, .int (0 : Int32), .int (0 : Int32)]) dX11_crews_26 mlRX11_291 cv_X11_setsGiving zk_0 (ct_Fm_setsGiving (dle (Nat.le_of_ble_eq_true rfl) hd0) he6) (dps (Nat.le_of_ble_eq_true rfl) hd0) rfl rfl (Nat.le_of_ble_eq_true rfl) ?_
      refine z_aload_n dX11_crews_29 0 rfl ?_
      obtain ⟨v7, he7, h⟩ := obind h
      refine y_Vi (M := mX11_crews) (Y := mX11_allCords) (d2 := d - 1) (As := []) (st := [.int v6.1, .int v5.1, .int (0 : Int32), .int (0 : Int32)]) dX11_crews_30 mlRX11_248 cv_X11_allCords zk_0 (ct_Fm_allCords (dle (Nat.le_of_ble_eq_true rfl) hd0) he7) (dps (Nat.le_of_ble_eq_true rfl) hd0) rfl rfl (Nat.le_of_ble_eq_true rfl) ?_
      obtain ⟨v8, he8, h⟩ := obind h
      refine y_Ni (M := mX11_crews) (Y := mX1_outcome) (d2 := d - 1) (As := [.int (0 : Int32), .int (0 : Int32), .int v5.1, .int v6.1, .int v7]) (st := []) dX11_crews_33 nlRX11_294 cv_X1_outcome (ct_Cr_outcome (dle (Nat.le_of_ble_eq_true rfl) hd0) he8) (dps (Nat.le_of_ble_eq_true rfl) hd0) rfl rfl (Nat.le_of_ble_eq_true rfl) ?_
      cases h
      exact z_iret dX11_crews_36 rfl
    · replace h := oFn hc4 h
      refine z_bipush (M := mX11_crews) (v := -2) dX11_crews_14 rfl ?_
      cases h
      exact z_iret dX11_crews_16 rfl
theorem ct_Fm_crews {g : GG} {d : Nat} {x1 : Int32} {x2 : Int32} {ν : Nm} {r : (Int32 × Nm)} (hd0 : 207 ≤ d)  (h : Fm_crews x1 x2 ν = some r) : Ct g d mX11_crews [.ref 0, .int x1, .int x2] (zem ν) (some (.int r.1), zem r.2) := y_entry in_X11_crews (Nat.le_of_ble_eq_true rfl) rfl (t_Fm_crews hd0 x1 x2 ν r h)
-- FuseMinutes.take(II)I
theorem dX11_take_0 : decode cX11_take 0 = .ok (.iload_n 1, 1) := by decide +kernel
theorem dX11_take_1 : decode cX11_take 1 = .ok (.invokestatic 266, 3) := by decide +kernel
theorem dX11_take_4 : decode cX11_take 4 = .ok (.ifCond .eq 10, 3) := by decide +kernel
theorem dX11_take_7 : decode cX11_take 7 = .ok (.iload_n 2, 1) := by decide +kernel
theorem dX11_take_8 : decode cX11_take 8 = .ok (.invokestatic 266, 3) := by decide +kernel
theorem dX11_take_11 : decode cX11_take 11 = .ok (.ifCond .ne 5, 3) := by decide +kernel
theorem dX11_take_14 : decode cX11_take 14 = .ok (.iconst (-1), 1) := by decide +kernel
theorem dX11_take_15 : decode cX11_take 15 = .ok (.ireturn, 1) := by decide +kernel
theorem dX11_take_16 : decode cX11_take 16 = .ok (.aload_n 0, 1) := by decide +kernel
theorem dX11_take_17 : decode cX11_take 17 = .ok (.iload_n 1, 1) := by decide +kernel
theorem dX11_take_18 : decode cX11_take 18 = .ok (.invokevirtual 291, 3) := by decide +kernel
theorem dX11_take_21 : decode cX11_take 21 = .ok (.aload_n 0, 1) := by decide +kernel
theorem dX11_take_22 : decode cX11_take 22 = .ok (.iload_n 2, 1) := by decide +kernel
theorem dX11_take_23 : decode cX11_take 23 = .ok (.invokevirtual 291, 3) := by decide +kernel
theorem dX11_take_26 : decode cX11_take 26 = .ok (.aload_n 0, 1) := by decide +kernel
theorem dX11_take_27 : decode cX11_take 27 = .ok (.invokevirtual 248, 3) := by decide +kernel
theorem dX11_take_30 : decode cX11_take 30 = .ok (.invokestatic 300, 3) := by decide +kernel
theorem dX11_take_33 : decode cX11_take 33 = .ok (.ireturn, 1) := by decide +kernel
def Fm_take (x1 : Int32) (x2 : Int32) (ν : Nm) : Option (Int32 × Nm) :=
  (Fm_isSpan x1).bind fun v1 =>
  (if (b2i v1) = 0 then
    some ((-1 : Int32), ν)
  else
    (Fm_isSpan x2).bind fun v3 =>
    (if ¬ (b2i v3) = 0 then
      (Fm_setsGiving x1 ν).bind fun v5 =>
      (Fm_setsGiving x2 v5.2).bind fun v6 =>
      (Fm_allCords v6.2).bind fun v7 =>
      (Cr_bestFirst v5.1 v6.1 v7).bind fun v8 =>
      some (v8, v6.2)
    else
      some ((-1 : Int32), ν)))
set_option maxRecDepth 100000 in
set_option maxHeartbeats 4000000 in
theorem t_Fm_take {g : GG} {d : Nat} (hd0 : 207 ≤ d) : ∀ (x1 : Int32) (x2 : Int32) (ν : Nm) (r : (Int32 × Nm)), Fm_take x1 x2 ν = some r → Z g d (0, 0) mX11_take 333 0 0 0 [(0, .ref 0), (1, .int x1), (2, .int x2)] [] (zem ν) (zF g (some (.int r.1), zem r.2)) := by
  intro x1 x2 ν r h
  unfold Fm_take at h
  refine z_iload_n dX11_take_0 1 rfl ?_
  obtain ⟨v1, he1, h⟩ := obind h
  refine y_Si (M := mX11_take) (Y := mX11_isSpan) (d2 := d - 1) (As := [.int x1]) (st := []) dX11_take_1 mlRX11_266 cv_X11_isSpan (ct_Fm_isSpan (dle (Nat.le_of_ble_eq_true rfl) hd0) he1) (dps (Nat.le_of_ble_eq_true rfl) hd0) rfl rfl (Nat.le_of_ble_eq_true rfl) ?_
  refine z_if_eq 14 dX11_take_4 rfl (fun hc2 => ?_) (fun hc2 => ?_)
  · replace h := oT hc2 h
    refine z_iconst (M := mX11_take) (v := -1) dX11_take_14 rfl ?_
    cases h
    exact z_iret dX11_take_15 rfl
  · replace h := oF hc2 h
    refine z_iload_n dX11_take_7 2 rfl ?_
    obtain ⟨v3, he3, h⟩ := obind h
    refine y_Si (M := mX11_take) (Y := mX11_isSpan) (d2 := d - 1) (As := [.int x2]) (st := []) dX11_take_8 mlRX11_266 cv_X11_isSpan (ct_Fm_isSpan (dle (Nat.le_of_ble_eq_true rfl) hd0) he3) (dps (Nat.le_of_ble_eq_true rfl) hd0) rfl rfl (Nat.le_of_ble_eq_true rfl) ?_
    refine z_if_ne 16 dX11_take_11 rfl (fun hc4 => ?_) (fun hc4 => ?_)
    · replace h := oT hc4 h
      refine z_aload_n dX11_take_16 0 rfl ?_
      refine z_iload_n dX11_take_17 1 rfl ?_
      obtain ⟨v5, he5, h⟩ := obind h
      refine y_Vi (M := mX11_take) (Y := mX11_setsGiving) (d2 := d - 1) (As := [.int x1]) (st := []) dX11_take_18 mlRX11_291 cv_X11_setsGiving zk_0 (ct_Fm_setsGiving (dle (Nat.le_of_ble_eq_true rfl) hd0) he5) (dps (Nat.le_of_ble_eq_true rfl) hd0) rfl rfl (Nat.le_of_ble_eq_true rfl) ?_
      refine z_aload_n dX11_take_21 0 rfl ?_
      refine z_iload_n dX11_take_22 2 rfl ?_
      obtain ⟨v6, he6, h⟩ := obind h
      refine y_Vi (M := mX11_take) (Y := mX11_setsGiving) (d2 := d - 1) (As := [.int x2]) (st := [.int v5.1]) dX11_take_23 mlRX11_291 cv_X11_setsGiving zk_0 (ct_Fm_setsGiving (dle (Nat.le_of_ble_eq_true rfl) hd0) he6) (dps (Nat.le_of_ble_eq_true rfl) hd0) rfl rfl (Nat.le_of_ble_eq_true rfl) ?_
      refine z_aload_n dX11_take_26 0 rfl ?_
      obtain ⟨v7, he7, h⟩ := obind h
      refine y_Vi (M := mX11_take) (Y := mX11_allCords) (d2 := d - 1) (As := []) (st := [.int v6.1, .int v5.1]) dX11_take_27 mlRX11_248 cv_X11_allCords zk_0 (ct_Fm_allCords (dle (Nat.le_of_ble_eq_true rfl) hd0) he7) (dps (Nat.le_of_ble_eq_true rfl) hd0) rfl rfl (Nat.le_of_ble_eq_true rfl) ?_
      obtain ⟨v8, he8, h⟩ := obind h
      refine y_Si (M := mX11_take) (Y := mX1_bestFirst) (d2 := d - 1) (As := [.int v5.1, .int v6.1, .int v7]) (st := []) dX11_take_30 mlRX11_300 cv_X1_bestFirst (ct_Cr_bestFirst (dle (Nat.le_of_ble_eq_true rfl) hd0) he8) (dps (Nat.le_of_ble_eq_true rfl) hd0) rfl rfl (Nat.le_of_ble_eq_true rfl) ?_
      cases h
      exact z_iret dX11_take_33 rfl
    · replace h := oFn hc4 h
      refine z_iconst (M := mX11_take) (v := -1) dX11_take_14 rfl ?_
      cases h
      exact z_iret dX11_take_15 rfl
theorem ct_Fm_take {g : GG} {d : Nat} {x1 : Int32} {x2 : Int32} {ν : Nm} {r : (Int32 × Nm)} (hd0 : 207 ≤ d)  (h : Fm_take x1 x2 ν = some r) : Ct g d mX11_take [.ref 0, .int x1, .int x2] (zem ν) (some (.int r.1), zem r.2) := y_entry in_X11_take (Nat.le_of_ble_eq_true rfl) rfl (t_Fm_take hd0 x1 x2 ν r h)
-- FuseMinutes.wet(IZ)Z
theorem dX11_wet_0 : decode cX11_wet 0 = .ok (.aload_n 0, 1) := by decide +kernel
theorem dX11_wet_1 : decode cX11_wet 1 = .ok (.getfield 12, 3) := by decide +kernel
theorem dX11_wet_4 : decode cX11_wet 4 = .ok (.getfield 62, 3) := by decide +kernel
theorem dX11_wet_7 : decode cX11_wet 7 = .ok (.iload_n 1, 1) := by decide +kernel
theorem dX11_wet_8 : decode cX11_wet 8 = .ok (.invokevirtual 190, 3) := by decide +kernel
theorem dX11_wet_11 : decode cX11_wet 11 = .ok (.ifCond .ne 5, 3) := by decide +kernel
theorem dX11_wet_14 : decode cX11_wet 14 = .ok (.iconst 0, 1) := by decide +kernel
theorem dX11_wet_15 : decode cX11_wet 15 = .ok (.ireturn, 1) := by decide +kernel
theorem dX11_wet_16 : decode cX11_wet 16 = .ok (.aload_n 0, 1) := by decide +kernel
theorem dX11_wet_17 : decode cX11_wet 17 = .ok (.getfield 12, 3) := by decide +kernel
theorem dX11_wet_20 : decode cX11_wet 20 = .ok (.iload_n 2, 1) := by decide +kernel
theorem dX11_wet_21 : decode cX11_wet 21 = .ok (.ifCond .eq 17, 3) := by decide +kernel
theorem dX11_wet_24 : decode cX11_wet 24 = .ok (.aload_n 0, 1) := by decide +kernel
theorem dX11_wet_25 : decode cX11_wet 25 = .ok (.getfield 12, 3) := by decide +kernel
theorem dX11_wet_28 : decode cX11_wet 28 = .ok (.getfield 199, 3) := by decide +kernel
theorem dX11_wet_31 : decode cX11_wet 31 = .ok (.iconst 1, 1) := by decide +kernel
theorem dX11_wet_32 : decode cX11_wet 32 = .ok (.iload_n 1, 1) := by decide +kernel
theorem dX11_wet_33 : decode cX11_wet 33 = .ok (.ishl, 1) := by decide +kernel
theorem dX11_wet_34 : decode cX11_wet 34 = .ok (.ior, 1) := by decide +kernel
theorem dX11_wet_35 : decode cX11_wet 35 = .ok (.goto 16, 3) := by decide +kernel
theorem dX11_wet_38 : decode cX11_wet 38 = .ok (.aload_n 0, 1) := by decide +kernel
theorem dX11_wet_39 : decode cX11_wet 39 = .ok (.getfield 12, 3) := by decide +kernel
theorem dX11_wet_42 : decode cX11_wet 42 = .ok (.getfield 199, 3) := by decide +kernel
theorem dX11_wet_45 : decode cX11_wet 45 = .ok (.iconst 1, 1) := by decide +kernel
theorem dX11_wet_46 : decode cX11_wet 46 = .ok (.iload_n 1, 1) := by decide +kernel
theorem dX11_wet_47 : decode cX11_wet 47 = .ok (.ishl, 1) := by decide +kernel
theorem dX11_wet_48 : decode cX11_wet 48 = .ok (.iconst (-1), 1) := by decide +kernel
theorem dX11_wet_49 : decode cX11_wet 49 = .ok (.ixor, 1) := by decide +kernel
theorem dX11_wet_50 : decode cX11_wet 50 = .ok (.iand, 1) := by decide +kernel
theorem dX11_wet_51 : decode cX11_wet 51 = .ok (.putfield 199, 3) := by decide +kernel
theorem dX11_wet_54 : decode cX11_wet 54 = .ok (.iconst 1, 1) := by decide +kernel
theorem dX11_wet_55 : decode cX11_wet 55 = .ok (.ireturn, 1) := by decide +kernel
def Fm_wet (x1 : Int32) (x2 : Int32) (ν : Nm) : Option (Bool × Nm) :=
  (Pt_has ν 2 x1).bind fun v1 =>
  (if ¬ (b2i v1) = 0 then
    (if x2 = 0 then
      some (true, (si ν 1 4 ((gi ν 1 4) &&& (((1 : Int32) <<< (x1 &&& 31)) ^^^ (-1 : Int32)))))
    else
      some (true, (si ν 1 4 ((gi ν 1 4) ||| ((1 : Int32) <<< (x1 &&& 31))))))
  else
    some (false, ν))
set_option maxRecDepth 100000 in
set_option maxHeartbeats 4000000 in
theorem t_Fm_wet {g : GG} {d : Nat} (hd0 : 2 ≤ d) : ∀ (x1 : Int32) (x2 : Int32) (ν : Nm) (r : (Bool × Nm)), Fm_wet x1 x2 ν = some r → Z g d (0, 0) mX11_wet 333 0 0 0 [(0, .ref 0), (1, .int x1), (2, .int x2)] [] (zem ν) (zF g (some (.int (b2i r.1)), zem r.2)) := by
  intro x1 x2 ν r h
  unfold Fm_wet at h
  refine z_aload_n dX11_wet_0 0 rfl ?_
  refine y_getR (M := mX11_wet) (r := 1) dX11_wet_1 zk_0 flRX11_12 fr_9_0.1 (fr_9_0.2 _) ?_
  refine y_getR (M := mX11_wet) (r := 2) dX11_wet_4 zk_1 flRX11_62 fr_5_0.1 (fr_5_0.2 _) ?_
  refine z_iload_n dX11_wet_7 1 rfl ?_
  obtain ⟨v1, he1, h⟩ := obind h
  refine y_Vi (M := mX11_wet) (Y := mX2_has) (d2 := d - 1) (As := [.int x1]) (st := []) dX11_wet_8 mlRX11_190 cv_X2_has zk_2 (ct_Pt_has (dle (Nat.le_of_ble_eq_true rfl) hd0) zk_2 he1) (dps (Nat.le_of_ble_eq_true rfl) hd0) rfl rfl (Nat.le_of_ble_eq_true rfl) ?_
  refine z_if_ne 16 dX11_wet_11 rfl (fun hc2 => ?_) (fun hc2 => ?_)
  · replace h := oT hc2 h
    refine z_aload_n dX11_wet_16 0 rfl ?_
    refine y_getR (M := mX11_wet) (r := 1) dX11_wet_17 zk_0 flRX11_12 fr_9_0.1 (fr_9_0.2 _) ?_
    refine z_iload_n dX11_wet_20 2 rfl ?_
    refine z_if_eq 38 dX11_wet_21 rfl (fun hc3 => ?_) (fun hc3 => ?_)
    · replace h := oT hc3 h
      refine z_aload_n dX11_wet_38 0 rfl ?_
      refine y_getR (M := mX11_wet) (r := 1) dX11_wet_39 zk_0 flRX11_12 fr_9_0.1 (fr_9_0.2 _) ?_
      refine y_getI dX11_wet_42 zk_1 flRX11_199 ?_
      refine z_iconst (M := mX11_wet) (v := 1) dX11_wet_45 rfl ?_
      refine z_iload_n dX11_wet_46 1 rfl ?_
      refine z_ishl dX11_wet_47 ?_
      refine z_iconst (M := mX11_wet) (v := -1) dX11_wet_48 rfl ?_
      refine z_ixor dX11_wet_49 ?_
      refine z_iand dX11_wet_50 ?_
      refine y_putI dX11_wet_51 zk_1 flRX11_199 ⟨rfl, rfl⟩ ?_
      refine z_iconst (M := mX11_wet) (v := 1) dX11_wet_54 rfl ?_
      cases h
      exact z_zret dX11_wet_55 rfl rfl
    · replace h := oF hc3 h
      refine z_aload_n dX11_wet_24 0 rfl ?_
      refine y_getR (M := mX11_wet) (r := 1) dX11_wet_25 zk_0 flRX11_12 fr_9_0.1 (fr_9_0.2 _) ?_
      refine y_getI dX11_wet_28 zk_1 flRX11_199 ?_
      refine z_iconst (M := mX11_wet) (v := 1) dX11_wet_31 rfl ?_
      refine z_iload_n dX11_wet_32 1 rfl ?_
      refine z_ishl dX11_wet_33 ?_
      refine z_ior dX11_wet_34 ?_
      refine z_goto 51 dX11_wet_35 rfl ?_
      refine y_putI dX11_wet_51 zk_1 flRX11_199 ⟨rfl, rfl⟩ ?_
      refine z_iconst (M := mX11_wet) (v := 1) dX11_wet_54 rfl ?_
      cases h
      exact z_zret dX11_wet_55 rfl rfl
  · replace h := oFn hc2 h
    refine z_iconst (M := mX11_wet) (v := 0) dX11_wet_14 rfl ?_
    cases h
    exact z_zret dX11_wet_15 rfl rfl
theorem ct_Fm_wet {g : GG} {d : Nat} {x1 : Int32} {x2 : Int32} {ν : Nm} {r : (Bool × Nm)} (hd0 : 2 ≤ d)  (h : Fm_wet x1 x2 ν = some r) : Ct g d mX11_wet [.ref 0, .int x1, .int x2] (zem ν) (some (.int (b2i r.1)), zem r.2) := y_entry in_X11_wet (Nat.le_of_ble_eq_true rfl) rfl (t_Fm_wet hd0 x1 x2 ν r h)
-- FuseMinutes.tried(IZ)I
theorem dX11_tried_0 : decode cX11_tried 0 = .ok (.iload_n 1, 1) := by decide +kernel
theorem dX11_tried_1 : decode cX11_tried 1 = .ok (.iconst (-1), 1) := by decide +kernel
theorem dX11_tried_2 : decode cX11_tried 2 = .ok (.if_icmp .ne 16, 3) := by decide +kernel
theorem dX11_tried_5 : decode cX11_tried 5 = .ok (.aload_n 0, 1) := by decide +kernel
theorem dX11_tried_6 : decode cX11_tried 6 = .ok (.getfield 12, 3) := by decide +kernel
theorem dX11_tried_9 : decode cX11_tried 9 = .ok (.getfield 304, 3) := by decide +kernel
theorem dX11_tried_12 : decode cX11_tried 12 = .ok (.iconst 0, 1) := by decide +kernel
theorem dX11_tried_13 : decode cX11_tried 13 = .ok (.putfield 276, 3) := by decide +kernel
theorem dX11_tried_16 : decode cX11_tried 16 = .ok (.iconst 0, 1) := by decide +kernel
theorem dX11_tried_17 : decode cX11_tried 17 = .ok (.ireturn, 1) := by decide +kernel
theorem dX11_tried_18 : decode cX11_tried 18 = .ok (.iload_n 1, 1) := by decide +kernel
theorem dX11_tried_19 : decode cX11_tried 19 = .ok (.iconst 2, 1) := by decide +kernel
theorem dX11_tried_20 : decode cX11_tried 20 = .ok (.imul, 1) := by decide +kernel
theorem dX11_tried_21 : decode cX11_tried 21 = .ok (.iload_n 2, 1) := by decide +kernel
theorem dX11_tried_22 : decode cX11_tried 22 = .ok (.ifCond .eq 7, 3) := by decide +kernel
theorem dX11_tried_25 : decode cX11_tried 25 = .ok (.iconst 1, 1) := by decide +kernel
theorem dX11_tried_26 : decode cX11_tried 26 = .ok (.goto 4, 3) := by decide +kernel
theorem dX11_tried_29 : decode cX11_tried 29 = .ok (.iconst 0, 1) := by decide +kernel
theorem dX11_tried_30 : decode cX11_tried 30 = .ok (.iadd, 1) := by decide +kernel
theorem dX11_tried_31 : decode cX11_tried 31 = .ok (.istore_n 3, 1) := by decide +kernel
theorem dX11_tried_32 : decode cX11_tried 32 = .ok (.aload_n 0, 1) := by decide +kernel
theorem dX11_tried_33 : decode cX11_tried 33 = .ok (.iload_n 1, 1) := by decide +kernel
theorem dX11_tried_34 : decode cX11_tried 34 = .ok (.invokevirtual 236, 3) := by decide +kernel
theorem dX11_tried_37 : decode cX11_tried 37 = .ok (.ifCond .eq 30, 3) := by decide +kernel
theorem dX11_tried_40 : decode cX11_tried 40 = .ok (.aload_n 0, 1) := by decide +kernel
theorem dX11_tried_41 : decode cX11_tried 41 = .ok (.getfield 12, 3) := by decide +kernel
theorem dX11_tried_44 : decode cX11_tried 44 = .ok (.getfield 304, 3) := by decide +kernel
theorem dX11_tried_47 : decode cX11_tried 47 = .ok (.iload_n 3, 1) := by decide +kernel
theorem dX11_tried_48 : decode cX11_tried 48 = .ok (.invokevirtual 279, 3) := by decide +kernel
theorem dX11_tried_51 : decode cX11_tried 51 = .ok (.ifCond .eq 16, 3) := by decide +kernel
theorem dX11_tried_54 : decode cX11_tried 54 = .ok (.aload_n 0, 1) := by decide +kernel
theorem dX11_tried_55 : decode cX11_tried 55 = .ok (.getfield 12, 3) := by decide +kernel
theorem dX11_tried_58 : decode cX11_tried 58 = .ok (.getfield 304, 3) := by decide +kernel
theorem dX11_tried_61 : decode cX11_tried 61 = .ok (.getfield 276, 3) := by decide +kernel
theorem dX11_tried_64 : decode cX11_tried 64 = .ok (.goto 5, 3) := by decide +kernel
theorem dX11_tried_67 : decode cX11_tried 67 = .ok (.bipush (-2), 2) := by decide +kernel
theorem dX11_tried_69 : decode cX11_tried 69 = .ok (.ireturn, 1) := by decide +kernel
def Fm_tried_30 (x1 : Int32) (s0 : Int32) (s1 : Int32) (ν : Nm) : Option (Int32 × Nm) :=
  (Fm_isSet ν x1).bind fun v1 =>
  (if (b2i v1) = 0 then
    some ((-2 : Int32), ν)
  else
    (To_add 132 (s1 + s0) ν).bind fun v3 =>
    (if (b2i v3.1) = 0 then
      some ((-2 : Int32), v3.2)
    else
      some ((gi v3.2 132 1), v3.2)))
set_option maxRecDepth 100000 in
set_option maxHeartbeats 4000000 in
theorem t_Fm_tried_30 {g : GG} {d : Nat} (hd0 : 3 ≤ d) : ∀ (x1 : Int32) (s0 : Int32) (s1 : Int32) (ν : Nm) (r : (Int32 × Nm)), Fm_tried_30 x1 s0 s1 ν = some r → Z g d (0, 0) mX11_tried 333 0 0 30 [(0, .ref 0), (1, .int x1)] [.int s0, .int s1] (zem ν) (zF g (some (.int r.1), zem r.2)) := by
  intro x1 s0 s1 ν r h
  unfold Fm_tried_30 at h
  refine z_iadd dX11_tried_30 ?_
  refine z_istore_n (M := mX11_tried) (lv2 := [(3, .int (s1 + s0)), (0, .ref 0), (1, .int x1)]) dX11_tried_31 (Nat.le_of_ble_eq_true rfl) rfl ?_
  refine z_aload_n dX11_tried_32 1 rfl ?_
  refine z_iload_n dX11_tried_33 2 rfl ?_
  obtain ⟨v1, he1, h⟩ := obind h
  refine y_Vi (M := mX11_tried) (Y := mX11_isSet) (d2 := d - 1) (As := [.int x1]) (st := []) dX11_tried_34 mlRX11_236 cv_X11_isSet zk_0 (ct_Fm_isSet (dle (Nat.le_of_ble_eq_true rfl) hd0) he1) (dps (Nat.le_of_ble_eq_true rfl) hd0) rfl rfl (Nat.le_of_ble_eq_true rfl) ?_
  refine z_if_eq 67 dX11_tried_37 rfl (fun hc2 => ?_) (fun hc2 => ?_)
  · replace h := oT hc2 h
    refine z_bipush (M := mX11_tried) (v := -2) dX11_tried_67 rfl ?_
    cases h
    exact z_iret dX11_tried_69 rfl
  · replace h := oF hc2 h
    refine z_aload_n dX11_tried_40 1 rfl ?_
    refine y_getR (M := mX11_tried) (r := 1) dX11_tried_41 zk_0 flRX11_12 fr_9_0.1 (fr_9_0.2 _) ?_
    refine y_getR (M := mX11_tried) (r := 132) dX11_tried_44 zk_1 flRX11_304 fr_5_9.1 (fr_5_9.2 _) ?_
    refine z_iload_n dX11_tried_47 0 rfl ?_
    obtain ⟨v3, he3, h⟩ := obind h
    refine y_Vi (M := mX11_tried) (Y := mX10_add) (d2 := d - 1) (As := [.int (s1 + s0)]) (st := []) dX11_tried_48 mlRX11_279 cv_X10_add zk_132 (ct_To_add (dle (Nat.le_of_ble_eq_true rfl) hd0) zk_132 he3) (dps (Nat.le_of_ble_eq_true rfl) hd0) rfl rfl (Nat.le_of_ble_eq_true rfl) ?_
    refine z_if_eq 67 dX11_tried_51 rfl (fun hc4 => ?_) (fun hc4 => ?_)
    · replace h := oT hc4 h
      refine z_bipush (M := mX11_tried) (v := -2) dX11_tried_67 rfl ?_
      cases h
      exact z_iret dX11_tried_69 rfl
    · replace h := oF hc4 h
      refine z_aload_n dX11_tried_54 1 rfl ?_
      refine y_getR (M := mX11_tried) (r := 1) dX11_tried_55 zk_0 flRX11_12 fr_9_0.1 (fr_9_0.2 _) ?_
      refine y_getR (M := mX11_tried) (r := 132) dX11_tried_58 zk_1 flRX11_304 fr_5_9.1 (fr_5_9.2 _) ?_
      refine y_getI dX11_tried_61 zk_132 flRX11_276 ?_
      refine z_goto 69 dX11_tried_64 rfl ?_
      cases h
      exact z_iret dX11_tried_69 rfl
def Fm_tried (x1 : Int32) (x2 : Int32) (ν : Nm) : Option (Int32 × Nm) :=
  (if ¬ x1 = (-1 : Int32) then
    (if x2 = 0 then
      Fm_tried_30 x1 (0 : Int32) (x1 * (2 : Int32)) ν
    else
      Fm_tried_30 x1 (1 : Int32) (x1 * (2 : Int32)) ν)
  else
    some ((0 : Int32), (si ν 132 1 (0 : Int32))))
set_option maxRecDepth 100000 in
set_option maxHeartbeats 4000000 in
theorem t_Fm_tried {g : GG} {d : Nat} (hd0 : 3 ≤ d) : ∀ (x1 : Int32) (x2 : Int32) (ν : Nm) (r : (Int32 × Nm)), Fm_tried x1 x2 ν = some r → Z g d (0, 0) mX11_tried 333 0 0 0 [(0, .ref 0), (1, .int x1), (2, .int x2)] [] (zem ν) (zF g (some (.int r.1), zem r.2)) := by
  intro x1 x2 ν r h
  unfold Fm_tried at h
  refine z_iload_n dX11_tried_0 1 rfl ?_
  refine z_iconst (M := mX11_tried) (v := -1) dX11_tried_1 rfl ?_
  refine z_icmp_ne 18 dX11_tried_2 rfl (fun hc1 => ?_) (fun hc1 => ?_)
  · replace h := oT hc1 h
    refine z_iload_n dX11_tried_18 1 rfl ?_
    refine z_iconst (M := mX11_tried) (v := 2) dX11_tried_19 rfl ?_
    refine z_imul dX11_tried_20 ?_
    refine z_iload_n dX11_tried_21 2 rfl ?_
    refine z_if_eq 29 dX11_tried_22 rfl (fun hc2 => ?_) (fun hc2 => ?_)
    · replace h := oT hc2 h
      refine z_iconst (M := mX11_tried) (v := 0) dX11_tried_29 rfl ?_
      refine z_lv (lv2 := [(0, .ref 0), (1, .int x1)]) [0, 1] rfl ?_
      exact t_Fm_tried_30 hd0  x1 (0 : Int32) (x1 * (2 : Int32)) ν _ h
    · replace h := oF hc2 h
      refine z_iconst (M := mX11_tried) (v := 1) dX11_tried_25 rfl ?_
      refine z_goto 30 dX11_tried_26 rfl ?_
      refine z_lv (lv2 := [(0, .ref 0), (1, .int x1)]) [0, 1] rfl ?_
      exact t_Fm_tried_30 hd0  x1 (1 : Int32) (x1 * (2 : Int32)) ν _ h
  · replace h := oFn hc1 h
    refine z_aload_n dX11_tried_5 0 rfl ?_
    refine y_getR (M := mX11_tried) (r := 1) dX11_tried_6 zk_0 flRX11_12 fr_9_0.1 (fr_9_0.2 _) ?_
    refine y_getR (M := mX11_tried) (r := 132) dX11_tried_9 zk_1 flRX11_304 fr_5_9.1 (fr_5_9.2 _) ?_
    refine z_iconst (M := mX11_tried) (v := 0) dX11_tried_12 rfl ?_
    refine y_putI dX11_tried_13 zk_132 flRX11_276 ⟨rfl, rfl⟩ ?_
    refine z_iconst (M := mX11_tried) (v := 0) dX11_tried_16 rfl ?_
    cases h
    exact z_iret dX11_tried_17 rfl
theorem ct_Fm_tried {g : GG} {d : Nat} {x1 : Int32} {x2 : Int32} {ν : Nm} {r : (Int32 × Nm)} (hd0 : 3 ≤ d)  (h : Fm_tried x1 x2 ν = some r) : Ct g d mX11_tried [.ref 0, .int x1, .int x2] (zem ν) (some (.int r.1), zem r.2) := y_entry in_X11_tried (Nat.le_of_ble_eq_true rfl) rfl (t_Fm_tried hd0 x1 x2 ν r h)
-- FuseMinutes.suspectSets()I
theorem dX11_suspectSets_0 : decode cX11_suspectSets 0 = .ok (.iconst 0, 1) := by decide +kernel
theorem dX11_suspectSets_1 : decode cX11_suspectSets 1 = .ok (.istore_n 1, 1) := by decide +kernel
theorem dX11_suspectSets_2 : decode cX11_suspectSets 2 = .ok (.iconst 0, 1) := by decide +kernel
theorem dX11_suspectSets_3 : decode cX11_suspectSets 3 = .ok (.istore_n 2, 1) := by decide +kernel
theorem dX11_suspectSets_4 : decode cX11_suspectSets 4 = .ok (.iload_n 2, 1) := by decide +kernel
theorem dX11_suspectSets_5 : decode cX11_suspectSets 5 = .ok (.aload_n 0, 1) := by decide +kernel
theorem dX11_suspectSets_6 : decode cX11_suspectSets 6 = .ok (.invokevirtual 248, 3) := by decide +kernel
theorem dX11_suspectSets_9 : decode cX11_suspectSets 9 = .ok (.if_icmp .gt 29, 3) := by decide +kernel
theorem dX11_suspectSets_12 : decode cX11_suspectSets 12 = .ok (.iload_n 2, 1) := by decide +kernel
theorem dX11_suspectSets_13 : decode cX11_suspectSets 13 = .ok (.aload_n 0, 1) := by decide +kernel
theorem dX11_suspectSets_14 : decode cX11_suspectSets 14 = .ok (.getfield 12, 3) := by decide +kernel
theorem dX11_suspectSets_17 : decode cX11_suspectSets 17 = .ok (.getfield 304, 3) := by decide +kernel
theorem dX11_suspectSets_20 : decode cX11_suspectSets 20 = .ok (.invokestatic 401, 3) := by decide +kernel
theorem dX11_suspectSets_23 : decode cX11_suspectSets 23 = .ok (.ifCond .eq 9, 3) := by decide +kernel
theorem dX11_suspectSets_26 : decode cX11_suspectSets 26 = .ok (.iload_n 1, 1) := by decide +kernel
theorem dX11_suspectSets_27 : decode cX11_suspectSets 27 = .ok (.iconst 1, 1) := by decide +kernel
theorem dX11_suspectSets_28 : decode cX11_suspectSets 28 = .ok (.iload_n 2, 1) := by decide +kernel
theorem dX11_suspectSets_29 : decode cX11_suspectSets 29 = .ok (.ishl, 1) := by decide +kernel
theorem dX11_suspectSets_30 : decode cX11_suspectSets 30 = .ok (.ior, 1) := by decide +kernel
theorem dX11_suspectSets_31 : decode cX11_suspectSets 31 = .ok (.istore_n 1, 1) := by decide +kernel
theorem dX11_suspectSets_32 : decode cX11_suspectSets 32 = .ok (.iinc 2 1, 3) := by decide +kernel
theorem dX11_suspectSets_35 : decode cX11_suspectSets 35 = .ok (.goto (-31), 3) := by decide +kernel
theorem dX11_suspectSets_38 : decode cX11_suspectSets 38 = .ok (.iload_n 1, 1) := by decide +kernel
theorem dX11_suspectSets_39 : decode cX11_suspectSets 39 = .ok (.ireturn, 1) := by decide +kernel
def Fm_suspectSets_32 (ν : Nm) (k4 : Int32 → Int32 → Option Int32) (x1 : Int32) (x2 : Int32) : Option Int32 :=
  k4 x1 (x2 + (1 : Int32))
set_option maxRecDepth 100000 in
set_option maxHeartbeats 4000000 in
theorem t_Fm_suspectSets_32 {g : GG} {d : Nat} {ν : Nm} (hd0 : 2 ≤ d) {k4 : Int32 → Int32 → Option Int32} (hk4 : ∀ (x1 : Int32) (x2 : Int32) (r : Int32), k4 x1 x2 = some r → Z g d (0, 0) mX11_suspectSets 333 0 0 4 [(0, .ref 0), (1, .int x1), (2, .int x2)] [] (zem ν) (zF g (some (.int r), zem ν))) : ∀ (x1 : Int32) (x2 : Int32) (r : Int32), Fm_suspectSets_32 ν k4 x1 x2 = some r → Z g d (0, 0) mX11_suspectSets 333 0 0 32 [(0, .ref 0), (1, .int x1), (2, .int x2)] [] (zem ν) (zF g (some (.int r), zem ν)) := by
  intro x1 x2 r h
  unfold Fm_suspectSets_32 at h
  refine z_iinc (M := mX11_suspectSets) (v := (x2 + (1 : Int32))) (lv2 := [(2, .int (x2 + (1 : Int32))), (0, .ref 0), (1, .int x1)]) dX11_suspectSets_32 2 rfl rfl (Nat.le_of_ble_eq_true rfl) rfl ?_
  refine z_goto 4 dX11_suspectSets_35 rfl ?_
  refine z_lv (lv2 := [(0, .ref 0), (1, .int x1), (2, .int (x2 + (1 : Int32)))]) [1, 2, 0] rfl ?_
  exact hk4 x1 (x2 + (1 : Int32)) _ h
def Fm_suspectSets_4 (ν : Nm) : Nat → Int32 → Int32 → Option Int32
  | 0, _, _ => none
  | f + 1, x1, x2 =>
    (Fm_allCords ν).bind fun v1 =>
    (if v1 < x2 then
      some x1
    else
      (Sp_fits ν x2 132).bind fun v3 =>
      (if (b2i v3) = 0 then
        Fm_suspectSets_32 ν (Fm_suspectSets_4 ν f) x1 x2
      else
        Fm_suspectSets_32 ν (Fm_suspectSets_4 ν f) (x1 ||| ((1 : Int32) <<< (x2 &&& 31))) x2))
set_option maxRecDepth 100000 in
set_option maxHeartbeats 4000000 in
theorem t_Fm_suspectSets_4 {g : GG} {d : Nat} {ν : Nm} (hd0 : 2 ≤ d) : ∀ (f : Nat), ∀ (x1 : Int32) (x2 : Int32) (r : Int32), Fm_suspectSets_4 ν f x1 x2 = some r → Z g d (0, 0) mX11_suspectSets 333 0 0 4 [(0, .ref 0), (1, .int x1), (2, .int x2)] [] (zem ν) (zF g (some (.int r), zem ν)) := by
  intro f
  induction f with
  | zero =>
    intro x1 x2 r h
    cases h
  | succ f ih =>
    intro x1 x2 r h
    rw [Fm_suspectSets_4] at h
    refine z_iload_n dX11_suspectSets_4 2 rfl ?_
    refine z_aload_n dX11_suspectSets_5 0 rfl ?_
    obtain ⟨v1, he1, h⟩ := obind h
    refine y_Vi (M := mX11_suspectSets) (Y := mX11_allCords) (d2 := d - 1) (As := []) (st := [.int x2]) dX11_suspectSets_6 mlRX11_248 cv_X11_allCords zk_0 (ct_Fm_allCords (dle (Nat.le_of_ble_eq_true rfl) hd0) he1) (dps (Nat.le_of_ble_eq_true rfl) hd0) rfl rfl (Nat.le_of_ble_eq_true rfl) ?_
    refine z_icmp_gt 38 dX11_suspectSets_9 rfl (fun hc2 => ?_) (fun hc2 => ?_)
    · replace h := oT hc2 h
      refine z_iload_n dX11_suspectSets_38 1 rfl ?_
      cases h
      exact z_iret dX11_suspectSets_39 rfl
    · replace h := oF hc2 h
      refine z_iload_n dX11_suspectSets_12 2 rfl ?_
      refine z_aload_n dX11_suspectSets_13 0 rfl ?_
      refine y_getR (M := mX11_suspectSets) (r := 1) dX11_suspectSets_14 zk_0 flRX11_12 fr_9_0.1 (fr_9_0.2 _) ?_
      refine y_getR (M := mX11_suspectSets) (r := 132) dX11_suspectSets_17 zk_1 flRX11_304 fr_5_9.1 (fr_5_9.2 _) ?_
      obtain ⟨v3, he3, h⟩ := obind h
      refine y_Si (M := mX11_suspectSets) (Y := mX8_fits) (d2 := d - 1) (As := [.int x2, .ref 132]) (st := []) dX11_suspectSets_20 mlRX11_401 cv_X8_fits (ct_Sp_fits (dle (Nat.le_of_ble_eq_true rfl) hd0) zk_132 he3) (dps (Nat.le_of_ble_eq_true rfl) hd0) rfl rfl (Nat.le_of_ble_eq_true rfl) ?_
      refine z_if_eq 32 dX11_suspectSets_23 rfl (fun hc4 => ?_) (fun hc4 => ?_)
      · replace h := oT hc4 h
        exact t_Fm_suspectSets_32 hd0 ih x1 x2 _ h
      · replace h := oF hc4 h
        refine z_iload_n dX11_suspectSets_26 1 rfl ?_
        refine z_iconst (M := mX11_suspectSets) (v := 1) dX11_suspectSets_27 rfl ?_
        refine z_iload_n dX11_suspectSets_28 2 rfl ?_
        refine z_ishl dX11_suspectSets_29 ?_
        refine z_ior dX11_suspectSets_30 ?_
        refine z_istore_n (M := mX11_suspectSets) (lv2 := [(1, .int (x1 ||| ((1 : Int32) <<< (x2 &&& 31)))), (0, .ref 0), (2, .int x2)]) dX11_suspectSets_31 (Nat.le_of_ble_eq_true rfl) rfl ?_
        refine z_lv (lv2 := [(0, .ref 0), (1, .int (x1 ||| ((1 : Int32) <<< (x2 &&& 31)))), (2, .int x2)]) [1, 0, 2] rfl ?_
        exact t_Fm_suspectSets_32 hd0 ih (x1 ||| ((1 : Int32) <<< (x2 &&& 31))) x2 _ h
def Fm_suspectSets (ν : Nm) : Option Int32 :=
  Fm_suspectSets_4 ν FU (0 : Int32) (0 : Int32)
set_option maxRecDepth 100000 in
set_option maxHeartbeats 4000000 in
theorem t_Fm_suspectSets {g : GG} {d : Nat} {ν : Nm} (hd0 : 2 ≤ d) : ∀ (r : Int32), Fm_suspectSets ν = some r → Z g d (0, 0) mX11_suspectSets 333 0 0 0 [(0, .ref 0)] [] (zem ν) (zF g (some (.int r), zem ν)) := by
  intro r h
  unfold Fm_suspectSets at h
  refine z_iconst (M := mX11_suspectSets) (v := 0) dX11_suspectSets_0 rfl ?_
  refine z_istore_n (M := mX11_suspectSets) (lv2 := [(1, .int (0 : Int32)), (0, .ref 0)]) dX11_suspectSets_1 (Nat.le_of_ble_eq_true rfl) rfl ?_
  refine z_iconst (M := mX11_suspectSets) (v := 0) dX11_suspectSets_2 rfl ?_
  refine z_istore_n (M := mX11_suspectSets) (lv2 := [(2, .int (0 : Int32)), (1, .int (0 : Int32)), (0, .ref 0)]) dX11_suspectSets_3 (Nat.le_of_ble_eq_true rfl) rfl ?_
  refine z_lv (lv2 := [(0, .ref 0), (1, .int (0 : Int32)), (2, .int (0 : Int32))]) [2, 1, 0] rfl ?_
  exact t_Fm_suspectSets_4 hd0 FU (0 : Int32) (0 : Int32) _ h
theorem ct_Fm_suspectSets {g : GG} {d : Nat} {ν : Nm} {r : Int32} (hd0 : 2 ≤ d)  (h : Fm_suspectSets ν = some r) : Ct g d mX11_suspectSets [.ref 0] (zem ν) (some (.int r), zem ν) := y_entry in_X11_suspectSets (Nat.le_of_ble_eq_true rfl) rfl (t_Fm_suspectSets hd0 r h)
-- FuseMinutes.suspects(I)I
theorem dX11_suspects_0 : decode cX11_suspects 0 = .ok (.iload_n 1, 1) := by decide +kernel
theorem dX11_suspects_1 : decode cX11_suspects 1 = .ok (.iconst 0, 1) := by decide +kernel
theorem dX11_suspects_2 : decode cX11_suspects 2 = .ok (.iconst 3, 1) := by decide +kernel
theorem dX11_suspects_3 : decode cX11_suspects 3 = .ok (.invokestatic 72, 3) := by decide +kernel
theorem dX11_suspects_6 : decode cX11_suspects 6 = .ok (.ifCond .ne 5, 3) := by decide +kernel
theorem dX11_suspects_9 : decode cX11_suspects 9 = .ok (.iconst (-1), 1) := by decide +kernel
theorem dX11_suspects_10 : decode cX11_suspects 10 = .ok (.ireturn, 1) := by decide +kernel
theorem dX11_suspects_11 : decode cX11_suspects 11 = .ok (.aload_n 0, 1) := by decide +kernel
theorem dX11_suspects_12 : decode cX11_suspects 12 = .ok (.invokevirtual 307, 3) := by decide +kernel
theorem dX11_suspects_15 : decode cX11_suspects 15 = .ok (.istore_n 2, 1) := by decide +kernel
theorem dX11_suspects_16 : decode cX11_suspects 16 = .ok (.iload_n 1, 1) := by decide +kernel
theorem dX11_suspects_17 : decode cX11_suspects 17 = .ok (.ifCond .ne 8, 3) := by decide +kernel
theorem dX11_suspects_20 : decode cX11_suspects 20 = .ok (.iload_n 2, 1) := by decide +kernel
theorem dX11_suspects_21 : decode cX11_suspects 21 = .ok (.invokestatic 223, 3) := by decide +kernel
theorem dX11_suspects_24 : decode cX11_suspects 24 = .ok (.ireturn, 1) := by decide +kernel
theorem dX11_suspects_25 : decode cX11_suspects 25 = .ok (.iload_n 2, 1) := by decide +kernel
theorem dX11_suspects_26 : decode cX11_suspects 26 = .ok (.ifCond .ne 5, 3) := by decide +kernel
theorem dX11_suspects_29 : decode cX11_suspects 29 = .ok (.iconst (-1), 1) := by decide +kernel
theorem dX11_suspects_30 : decode cX11_suspects 30 = .ok (.ireturn, 1) := by decide +kernel
theorem dX11_suspects_31 : decode cX11_suspects 31 = .ok (.iload_n 1, 1) := by decide +kernel
theorem dX11_suspects_32 : decode cX11_suspects 32 = .ok (.iconst 1, 1) := by decide +kernel
theorem dX11_suspects_33 : decode cX11_suspects 33 = .ok (.if_icmp .ne 12, 3) := by decide +kernel
theorem dX11_suspects_36 : decode cX11_suspects 36 = .ok (.iload_n 2, 1) := by decide +kernel
theorem dX11_suspects_37 : decode cX11_suspects 37 = .ok (.aload_n 0, 1) := by decide +kernel
theorem dX11_suspects_38 : decode cX11_suspects 38 = .ok (.invokevirtual 248, 3) := by decide +kernel
theorem dX11_suspects_41 : decode cX11_suspects 41 = .ok (.invokestatic 310, 3) := by decide +kernel
theorem dX11_suspects_44 : decode cX11_suspects 44 = .ok (.ireturn, 1) := by decide +kernel
theorem dX11_suspects_45 : decode cX11_suspects 45 = .ok (.iload_n 1, 1) := by decide +kernel
theorem dX11_suspects_46 : decode cX11_suspects 46 = .ok (.iconst 2, 1) := by decide +kernel
theorem dX11_suspects_47 : decode cX11_suspects 47 = .ok (.if_icmp .ne 14, 3) := by decide +kernel
theorem dX11_suspects_50 : decode cX11_suspects 50 = .ok (.iload_n 2, 1) := by decide +kernel
theorem dX11_suspects_51 : decode cX11_suspects 51 = .ok (.aload_n 0, 1) := by decide +kernel
theorem dX11_suspects_52 : decode cX11_suspects 52 = .ok (.invokevirtual 248, 3) := by decide +kernel
theorem dX11_suspects_55 : decode cX11_suspects 55 = .ok (.invokestatic 315, 3) := by decide +kernel
theorem dX11_suspects_58 : decode cX11_suspects 58 = .ok (.goto 7, 3) := by decide +kernel
theorem dX11_suspects_61 : decode cX11_suspects 61 = .ok (.iload_n 2, 1) := by decide +kernel
theorem dX11_suspects_62 : decode cX11_suspects 62 = .ok (.invokestatic 318, 3) := by decide +kernel
theorem dX11_suspects_65 : decode cX11_suspects 65 = .ok (.ireturn, 1) := by decide +kernel
def Fm_suspects (ν : Nm) (x1 : Int32) : Option Int32 :=
  (Fm_within x1 (0 : Int32) (3 : Int32)).bind fun v1 =>
  (if ¬ (b2i v1) = 0 then
    (Fm_suspectSets ν).bind fun v3 =>
    (if ¬ x1 = 0 then
      (if ¬ v3 = 0 then
        (if ¬ x1 = (1 : Int32) then
          (if ¬ x1 = (2 : Int32) then
            (Sp_lowest v3).bind fun v8 =>
            some v8
          else
            (Fm_allCords ν).bind fun v9 =>
            (Sp_inNone v3 v9).bind fun v10 =>
            some v10)
        else
          (Fm_allCords ν).bind fun v11 =>
          (Sp_inAll v3 v11).bind fun v12 =>
          some v12)
      else
        some (-1 : Int32))
    else
      (In_bitCount v3).bind fun v13 =>
      some v13)
  else
    some (-1 : Int32))
set_option maxRecDepth 100000 in
set_option maxHeartbeats 4000000 in
theorem t_Fm_suspects {g : GG} {d : Nat} {ν : Nm} (hd0 : 3 ≤ d) : ∀ (x1 : Int32) (r : Int32), Fm_suspects ν x1 = some r → Z g d (0, 0) mX11_suspects 333 0 0 0 [(0, .ref 0), (1, .int x1)] [] (zem ν) (zF g (some (.int r), zem ν)) := by
  intro x1 r h
  unfold Fm_suspects at h
  refine z_iload_n dX11_suspects_0 1 rfl ?_
  refine z_iconst (M := mX11_suspects) (v := 0) dX11_suspects_1 rfl ?_
  refine z_iconst (M := mX11_suspects) (v := 3) dX11_suspects_2 rfl ?_
  obtain ⟨v1, he1, h⟩ := obind h
  refine y_Si (M := mX11_suspects) (Y := mX11_within) (d2 := d - 1) (As := [.int x1, .int (0 : Int32), .int (3 : Int32)]) (st := []) dX11_suspects_3 mlRX11_72 cv_X11_within (ct_Fm_within (dle (Nat.le_of_ble_eq_true rfl) hd0) he1) (dps (Nat.le_of_ble_eq_true rfl) hd0) rfl rfl (Nat.le_of_ble_eq_true rfl) ?_
  refine z_if_ne 11 dX11_suspects_6 rfl (fun hc2 => ?_) (fun hc2 => ?_)
  · replace h := oT hc2 h
    refine z_aload_n dX11_suspects_11 0 rfl ?_
    obtain ⟨v3, he3, h⟩ := obind h
    refine y_Vi (M := mX11_suspects) (Y := mX11_suspectSets) (d2 := d - 1) (As := []) (st := []) dX11_suspects_12 mlRX11_307 cv_X11_suspectSets zk_0 (ct_Fm_suspectSets (dle (Nat.le_of_ble_eq_true rfl) hd0) he3) (dps (Nat.le_of_ble_eq_true rfl) hd0) rfl rfl (Nat.le_of_ble_eq_true rfl) ?_
    refine z_istore_n (M := mX11_suspects) (lv2 := [(2, .int v3), (0, .ref 0), (1, .int x1)]) dX11_suspects_15 (Nat.le_of_ble_eq_true rfl) rfl ?_
    refine z_iload_n dX11_suspects_16 2 rfl ?_
    refine z_if_ne 25 dX11_suspects_17 rfl (fun hc4 => ?_) (fun hc4 => ?_)
    · replace h := oT hc4 h
      refine z_iload_n dX11_suspects_25 0 rfl ?_
      refine z_if_ne 31 dX11_suspects_26 rfl (fun hc5 => ?_) (fun hc5 => ?_)
      · replace h := oT hc5 h
        refine z_iload_n dX11_suspects_31 2 rfl ?_
        refine z_iconst (M := mX11_suspects) (v := 1) dX11_suspects_32 rfl ?_
        refine z_icmp_ne 45 dX11_suspects_33 rfl (fun hc6 => ?_) (fun hc6 => ?_)
        · replace h := oT hc6 h
          refine z_iload_n dX11_suspects_45 2 rfl ?_
          refine z_iconst (M := mX11_suspects) (v := 2) dX11_suspects_46 rfl ?_
          refine z_icmp_ne 61 dX11_suspects_47 rfl (fun hc7 => ?_) (fun hc7 => ?_)
          · replace h := oT hc7 h
            refine z_iload_n dX11_suspects_61 0 rfl ?_
            obtain ⟨v8, he8, h⟩ := obind h
            refine y_Si (M := mX11_suspects) (Y := mX8_lowest) (d2 := d - 1) (As := [.int v3]) (st := []) dX11_suspects_62 mlRX11_318 cv_X8_lowest (ct_Sp_lowest (dle (Nat.le_of_ble_eq_true rfl) hd0) he8) (dps (Nat.le_of_ble_eq_true rfl) hd0) rfl rfl (Nat.le_of_ble_eq_true rfl) ?_
            cases h
            exact z_iret dX11_suspects_65 rfl
          · replace h := oFn hc7 h
            refine z_iload_n dX11_suspects_50 0 rfl ?_
            refine z_aload_n dX11_suspects_51 1 rfl ?_
            obtain ⟨v9, he9, h⟩ := obind h
            refine y_Vi (M := mX11_suspects) (Y := mX11_allCords) (d2 := d - 1) (As := []) (st := [.int v3]) dX11_suspects_52 mlRX11_248 cv_X11_allCords zk_0 (ct_Fm_allCords (dle (Nat.le_of_ble_eq_true rfl) hd0) he9) (dps (Nat.le_of_ble_eq_true rfl) hd0) rfl rfl (Nat.le_of_ble_eq_true rfl) ?_
            obtain ⟨v10, he10, h⟩ := obind h
            refine y_Si (M := mX11_suspects) (Y := mX8_inNone) (d2 := d - 1) (As := [.int v3, .int v9]) (st := []) dX11_suspects_55 mlRX11_315 cv_X8_inNone (ct_Sp_inNone (dle (Nat.le_of_ble_eq_true rfl) hd0) he10) (dps (Nat.le_of_ble_eq_true rfl) hd0) rfl rfl (Nat.le_of_ble_eq_true rfl) ?_
            refine z_goto 65 dX11_suspects_58 rfl ?_
            cases h
            exact z_iret dX11_suspects_65 rfl
        · replace h := oFn hc6 h
          refine z_iload_n dX11_suspects_36 0 rfl ?_
          refine z_aload_n dX11_suspects_37 1 rfl ?_
          obtain ⟨v11, he11, h⟩ := obind h
          refine y_Vi (M := mX11_suspects) (Y := mX11_allCords) (d2 := d - 1) (As := []) (st := [.int v3]) dX11_suspects_38 mlRX11_248 cv_X11_allCords zk_0 (ct_Fm_allCords (dle (Nat.le_of_ble_eq_true rfl) hd0) he11) (dps (Nat.le_of_ble_eq_true rfl) hd0) rfl rfl (Nat.le_of_ble_eq_true rfl) ?_
          obtain ⟨v12, he12, h⟩ := obind h
          refine y_Si (M := mX11_suspects) (Y := mX8_inAll) (d2 := d - 1) (As := [.int v3, .int v11]) (st := []) dX11_suspects_41 mlRX11_310 cv_X8_inAll (ct_Sp_inAll (dle (Nat.le_of_ble_eq_true rfl) hd0) he12) (dps (Nat.le_of_ble_eq_true rfl) hd0) rfl rfl (Nat.le_of_ble_eq_true rfl) ?_
          cases h
          exact z_iret dX11_suspects_44 rfl
      · replace h := oFn hc5 h
        refine z_iconst (M := mX11_suspects) (v := -1) dX11_suspects_29 rfl ?_
        cases h
        exact z_iret dX11_suspects_30 rfl
    · replace h := oFn hc4 h
      refine z_iload_n dX11_suspects_20 0 rfl ?_
      obtain ⟨v13, he13, h⟩ := obind h
      refine y_Si (M := mX11_suspects) (Y := mJ6_bitCount_0f7a4) (d2 := d - 1) (As := [.int v3]) (st := []) dX11_suspects_21 mlRX11_223 cv_J6_bitCount_0f7a4 (ct_In_bitCount (dle (Nat.le_of_ble_eq_true rfl) hd0) he13) (dps (Nat.le_of_ble_eq_true rfl) hd0) rfl rfl (Nat.le_of_ble_eq_true rfl) ?_
      cases h
      exact z_iret dX11_suspects_24 rfl
  · replace h := oFn hc2 h
    refine z_iconst (M := mX11_suspects) (v := -1) dX11_suspects_9 rfl ?_
    cases h
    exact z_iret dX11_suspects_10 rfl
theorem ct_Fm_suspects {g : GG} {d : Nat} {x1 : Int32} {ν : Nm} {r : Int32} (hd0 : 3 ≤ d)  (h : Fm_suspects ν x1 = some r) : Ct g d mX11_suspects [.ref 0, .int x1] (zem ν) (some (.int r), zem ν) := y_entry in_X11_suspects (Nat.le_of_ble_eq_true rfl) rfl (t_Fm_suspects hd0 x1 r h)
-- FuseMinutes.test()I
theorem dX11_test_0 : decode cX11_test 0 = .ok (.aload_n 0, 1) := by decide +kernel
theorem dX11_test_1 : decode cX11_test 1 = .ok (.invokevirtual 307, 3) := by decide +kernel
theorem dX11_test_4 : decode cX11_test 4 = .ok (.istore_n 1, 1) := by decide +kernel
theorem dX11_test_5 : decode cX11_test 5 = .ok (.iload_n 1, 1) := by decide +kernel
theorem dX11_test_6 : decode cX11_test 6 = .ok (.invokestatic 223, 3) := by decide +kernel
theorem dX11_test_9 : decode cX11_test 9 = .ok (.iconst 2, 1) := by decide +kernel
theorem dX11_test_10 : decode cX11_test 10 = .ok (.if_icmp .ge 7, 3) := by decide +kernel
theorem dX11_test_13 : decode cX11_test 13 = .ok (.iconst (-1), 1) := by decide +kernel
theorem dX11_test_14 : decode cX11_test 14 = .ok (.goto 11, 3) := by decide +kernel
theorem dX11_test_17 : decode cX11_test 17 = .ok (.iload_n 1, 1) := by decide +kernel
theorem dX11_test_18 : decode cX11_test 18 = .ok (.aload_n 0, 1) := by decide +kernel
theorem dX11_test_19 : decode cX11_test 19 = .ok (.invokevirtual 248, 3) := by decide +kernel
theorem dX11_test_22 : decode cX11_test 22 = .ok (.invokestatic 321, 3) := by decide +kernel
theorem dX11_test_25 : decode cX11_test 25 = .ok (.ireturn, 1) := by decide +kernel
def Fm_test (ν : Nm) : Option Int32 :=
  (Fm_suspectSets ν).bind fun v1 =>
  (In_bitCount v1).bind fun v2 =>
  (if (2 : Int32) ≤ v2 then
    (Fm_allCords ν).bind fun v4 =>
    (Sp_bestTrial v1 v4).bind fun v5 =>
    some v5
  else
    some (-1 : Int32))
set_option maxRecDepth 100000 in
set_option maxHeartbeats 4000000 in
theorem t_Fm_test {g : GG} {d : Nat} {ν : Nm} (hd0 : 3 ≤ d) : ∀ (r : Int32), Fm_test ν = some r → Z g d (0, 0) mX11_test 333 0 0 0 [(0, .ref 0)] [] (zem ν) (zF g (some (.int r), zem ν)) := by
  intro r h
  unfold Fm_test at h
  refine z_aload_n dX11_test_0 0 rfl ?_
  obtain ⟨v1, he1, h⟩ := obind h
  refine y_Vi (M := mX11_test) (Y := mX11_suspectSets) (d2 := d - 1) (As := []) (st := []) dX11_test_1 mlRX11_307 cv_X11_suspectSets zk_0 (ct_Fm_suspectSets (dle (Nat.le_of_ble_eq_true rfl) hd0) he1) (dps (Nat.le_of_ble_eq_true rfl) hd0) rfl rfl (Nat.le_of_ble_eq_true rfl) ?_
  refine z_istore_n (M := mX11_test) (lv2 := [(1, .int v1), (0, .ref 0)]) dX11_test_4 (Nat.le_of_ble_eq_true rfl) rfl ?_
  refine z_iload_n dX11_test_5 0 rfl ?_
  obtain ⟨v2, he2, h⟩ := obind h
  refine y_Si (M := mX11_test) (Y := mJ6_bitCount_0f7a4) (d2 := d - 1) (As := [.int v1]) (st := []) dX11_test_6 mlRX11_223 cv_J6_bitCount_0f7a4 (ct_In_bitCount (dle (Nat.le_of_ble_eq_true rfl) hd0) he2) (dps (Nat.le_of_ble_eq_true rfl) hd0) rfl rfl (Nat.le_of_ble_eq_true rfl) ?_
  refine z_iconst (M := mX11_test) (v := 2) dX11_test_9 rfl ?_
  refine z_icmp_ge 17 dX11_test_10 rfl (fun hc3 => ?_) (fun hc3 => ?_)
  · replace h := oT hc3 h
    refine z_iload_n dX11_test_17 0 rfl ?_
    refine z_aload_n dX11_test_18 1 rfl ?_
    obtain ⟨v4, he4, h⟩ := obind h
    refine y_Vi (M := mX11_test) (Y := mX11_allCords) (d2 := d - 1) (As := []) (st := [.int v1]) dX11_test_19 mlRX11_248 cv_X11_allCords zk_0 (ct_Fm_allCords (dle (Nat.le_of_ble_eq_true rfl) hd0) he4) (dps (Nat.le_of_ble_eq_true rfl) hd0) rfl rfl (Nat.le_of_ble_eq_true rfl) ?_
    obtain ⟨v5, he5, h⟩ := obind h
    refine y_Si (M := mX11_test) (Y := mX8_bestTrial) (d2 := d - 1) (As := [.int v1, .int v4]) (st := []) dX11_test_22 mlRX11_321 cv_X8_bestTrial (ct_Sp_bestTrial (dle (Nat.le_of_ble_eq_true rfl) hd0) he5) (dps (Nat.le_of_ble_eq_true rfl) hd0) rfl rfl (Nat.le_of_ble_eq_true rfl) ?_
    cases h
    exact z_iret dX11_test_25 rfl
  · replace h := oF hc3 h
    refine z_iconst (M := mX11_test) (v := -1) dX11_test_13 rfl ?_
    refine z_goto 25 dX11_test_14 rfl ?_
    cases h
    exact z_iret dX11_test_25 rfl
theorem ct_Fm_test {g : GG} {d : Nat} {ν : Nm} {r : Int32} (hd0 : 3 ≤ d)  (h : Fm_test ν = some r) : Ct g d mX11_test [.ref 0] (zem ν) (some (.int r), zem ν) := y_entry in_X11_test (Nat.le_of_ble_eq_true rfl) rfl (t_Fm_test hd0 r h)
-- FuseMinutes.inLowestTerms(JJZ)J
theorem dX11_inLowestTerms_0 : decode cX11_inLowestTerms 0 = .ok (.lload_n 2, 1) := by decide +kernel
theorem dX11_inLowestTerms_1 : decode cX11_inLowestTerms 1 = .ok (.lstore 5, 2) := by decide +kernel
theorem dX11_inLowestTerms_3 : decode cX11_inLowestTerms 3 = .ok (.lload_n 0, 1) := by decide +kernel
theorem dX11_inLowestTerms_4 : decode cX11_inLowestTerms 4 = .ok (.lstore 7, 2) := by decide +kernel
theorem dX11_inLowestTerms_6 : decode cX11_inLowestTerms 6 = .ok (.iconst 0, 1) := by decide +kernel
theorem dX11_inLowestTerms_7 : decode cX11_inLowestTerms 7 = .ok (.istore 9, 2) := by decide +kernel
theorem dX11_inLowestTerms_9 : decode cX11_inLowestTerms 9 = .ok (.iload 9, 2) := by decide +kernel
theorem dX11_inLowestTerms_11 : decode cX11_inLowestTerms 11 = .ok (.bipush 100, 2) := by decide +kernel
theorem dX11_inLowestTerms_13 : decode cX11_inLowestTerms 13 = .ok (.if_icmp .ge 31, 3) := by decide +kernel
theorem dX11_inLowestTerms_16 : decode cX11_inLowestTerms 16 = .ok (.lload 7, 2) := by decide +kernel
theorem dX11_inLowestTerms_18 : decode cX11_inLowestTerms 18 = .ok (.lconst 0, 1) := by decide +kernel
theorem dX11_inLowestTerms_19 : decode cX11_inLowestTerms 19 = .ok (.lcmp, 1) := by decide +kernel
theorem dX11_inLowestTerms_20 : decode cX11_inLowestTerms 20 = .ok (.ifCond .eq 24, 3) := by decide +kernel
theorem dX11_inLowestTerms_23 : decode cX11_inLowestTerms 23 = .ok (.lload 5, 2) := by decide +kernel
theorem dX11_inLowestTerms_25 : decode cX11_inLowestTerms 25 = .ok (.lload 7, 2) := by decide +kernel
theorem dX11_inLowestTerms_27 : decode cX11_inLowestTerms 27 = .ok (.lrem, 1) := by decide +kernel
theorem dX11_inLowestTerms_28 : decode cX11_inLowestTerms 28 = .ok (.lstore 10, 2) := by decide +kernel
theorem dX11_inLowestTerms_30 : decode cX11_inLowestTerms 30 = .ok (.lload 7, 2) := by decide +kernel
theorem dX11_inLowestTerms_32 : decode cX11_inLowestTerms 32 = .ok (.lstore 5, 2) := by decide +kernel
theorem dX11_inLowestTerms_34 : decode cX11_inLowestTerms 34 = .ok (.lload 10, 2) := by decide +kernel
theorem dX11_inLowestTerms_36 : decode cX11_inLowestTerms 36 = .ok (.lstore 7, 2) := by decide +kernel
theorem dX11_inLowestTerms_38 : decode cX11_inLowestTerms 38 = .ok (.iinc 9 1, 3) := by decide +kernel
theorem dX11_inLowestTerms_41 : decode cX11_inLowestTerms 41 = .ok (.goto (-32), 3) := by decide +kernel
theorem dX11_inLowestTerms_44 : decode cX11_inLowestTerms 44 = .ok (.lload 5, 2) := by decide +kernel
theorem dX11_inLowestTerms_46 : decode cX11_inLowestTerms 46 = .ok (.lconst 0, 1) := by decide +kernel
theorem dX11_inLowestTerms_47 : decode cX11_inLowestTerms 47 = .ok (.lcmp, 1) := by decide +kernel
theorem dX11_inLowestTerms_48 : decode cX11_inLowestTerms 48 = .ok (.ifCond .ne 9, 3) := by decide +kernel
theorem dX11_inLowestTerms_51 : decode cX11_inLowestTerms 51 = .ok (.ldc2_w 324, 3) := by decide +kernel
theorem dX11_inLowestTerms_54 : decode cX11_inLowestTerms 54 = .ok (.goto 16, 3) := by decide +kernel
theorem dX11_inLowestTerms_57 : decode cX11_inLowestTerms 57 = .ok (.iload 4, 2) := by decide +kernel
theorem dX11_inLowestTerms_59 : decode cX11_inLowestTerms 59 = .ok (.ifCond .eq 7, 3) := by decide +kernel
theorem dX11_inLowestTerms_62 : decode cX11_inLowestTerms 62 = .ok (.lload_n 2, 1) := by decide +kernel
theorem dX11_inLowestTerms_63 : decode cX11_inLowestTerms 63 = .ok (.goto 4, 3) := by decide +kernel
theorem dX11_inLowestTerms_66 : decode cX11_inLowestTerms 66 = .ok (.lload_n 0, 1) := by decide +kernel
theorem dX11_inLowestTerms_67 : decode cX11_inLowestTerms 67 = .ok (.lload 5, 2) := by decide +kernel
theorem dX11_inLowestTerms_69 : decode cX11_inLowestTerms 69 = .ok (.ldiv, 1) := by decide +kernel
theorem dX11_inLowestTerms_70 : decode cX11_inLowestTerms 70 = .ok (.lreturn, 1) := by decide +kernel
def Fm_inLowestTerms_44 (x0 : Int64) (x2 : Int64) (x4 : Int32) (x5 : Int64) : Option Int64 :=
  (if ¬ (lg_cmp x5 (0 : Int64)) = 0 then
    (if x4 = 0 then
      if x5 = 0 then none else
      some (x0 / x5)
    else
      if x5 = 0 then none else
      some (x2 / x5))
  else
    some (-1 : Int64))
set_option maxRecDepth 100000 in
set_option maxHeartbeats 4000000 in
theorem t_Fm_inLowestTerms_44 {g : GG} {d : Nat} {μ : Mm} (hd0 : 1 ≤ d) : ∀ (x0 : Int64) (x2 : Int64) (x4 : Int32) (x5 : Int64) (r : Int64), Fm_inLowestTerms_44 x0 x2 x4 x5 = some r → Z g d (0, 0) mX11_inLowestTerms 333 0 0 44 [(0, .long x0), (2, .long x2), (4, .int x4), (5, .long x5)] [] μ (zF g (some (.long r), μ)) := by
  intro x0 x2 x4 x5 r h
  unfold Fm_inLowestTerms_44 at h
  refine z_lload dX11_inLowestTerms_44 3 rfl ?_
  refine z_lconst (M := mX11_inLowestTerms) (v := 0) dX11_inLowestTerms_46 rfl ?_
  refine z_lcmp dX11_inLowestTerms_47 ?_
  refine z_if_ne 57 dX11_inLowestTerms_48 rfl (fun hc1 => ?_) (fun hc1 => ?_)
  · replace h := oT hc1 h
    refine z_iload dX11_inLowestTerms_57 2 rfl ?_
    refine z_if_eq 66 dX11_inLowestTerms_59 rfl (fun hc2 => ?_) (fun hc2 => ?_)
    · replace h := oT hc2 h
      refine z_lload_n dX11_inLowestTerms_66 0 rfl ?_
      refine z_lload dX11_inLowestTerms_67 3 rfl ?_
      obtain ⟨hz3, h⟩ := oifn h
      refine z_ldiv dX11_inLowestTerms_69 hz3 ?_
      cases h
      exact z_lret dX11_inLowestTerms_70 rfl
    · replace h := oF hc2 h
      refine z_lload_n dX11_inLowestTerms_62 1 rfl ?_
      refine z_goto 67 dX11_inLowestTerms_63 rfl ?_
      refine z_lload dX11_inLowestTerms_67 3 rfl ?_
      obtain ⟨hz4, h⟩ := oifn h
      refine z_ldiv dX11_inLowestTerms_69 hz4 ?_
      cases h
      exact z_lret dX11_inLowestTerms_70 rfl
  · replace h := oFn hc1 h
    refine z_ldc2 dX11_inLowestTerms_51 csRX11_324 ?_
    refine z_goto 70 dX11_inLowestTerms_54 rfl ?_
    cases h
    exact z_lret dX11_inLowestTerms_70 rfl
def Fm_inLowestTerms_9 : Nat → Int64 → Int64 → Int32 → Int64 → Int64 → Int32 → Option Int64
  | 0, _, _, _, _, _, _ => none
  | f + 1, x0, x2, x4, x5, x7, x9 =>
    (if (100 : Int32) ≤ x9 then
      Fm_inLowestTerms_44 x0 x2 x4 x5
    else
      (if (lg_cmp x7 (0 : Int64)) = 0 then
        Fm_inLowestTerms_44 x0 x2 x4 x5
      else
        if x7 = 0 then none else
        (Fm_inLowestTerms_9 f) x0 x2 x4 x7 (x5 - x5 / x7 * x7) (x9 + (1 : Int32))))
set_option maxRecDepth 100000 in
set_option maxHeartbeats 4000000 in
theorem t_Fm_inLowestTerms_9 {g : GG} {d : Nat} {μ : Mm} (hd0 : 1 ≤ d) : ∀ (f : Nat), ∀ (x0 : Int64) (x2 : Int64) (x4 : Int32) (x5 : Int64) (x7 : Int64) (x9 : Int32) (r : Int64), Fm_inLowestTerms_9 f x0 x2 x4 x5 x7 x9 = some r → Z g d (0, 0) mX11_inLowestTerms 333 0 0 9 [(0, .long x0), (2, .long x2), (4, .int x4), (5, .long x5), (7, .long x7), (9, .int x9)] [] μ (zF g (some (.long r), μ)) := by
  intro f
  induction f with
  | zero =>
    intro x0 x2 x4 x5 x7 x9 r h
    cases h
  | succ f ih =>
    intro x0 x2 x4 x5 x7 x9 r h
    rw [Fm_inLowestTerms_9] at h
    refine z_iload dX11_inLowestTerms_9 5 rfl ?_
    refine z_bipush (M := mX11_inLowestTerms) (v := 100) dX11_inLowestTerms_11 rfl ?_
    refine z_icmp_ge 44 dX11_inLowestTerms_13 rfl (fun hc1 => ?_) (fun hc1 => ?_)
    · replace h := oT hc1 h
      refine z_lv (lv2 := [(0, .long x0), (2, .long x2), (4, .int x4), (5, .long x5)]) [0, 1, 2, 3] rfl ?_
      exact t_Fm_inLowestTerms_44 hd0  x0 x2 x4 x5 _ h
    · replace h := oF hc1 h
      refine z_lload dX11_inLowestTerms_16 4 rfl ?_
      refine z_lconst (M := mX11_inLowestTerms) (v := 0) dX11_inLowestTerms_18 rfl ?_
      refine z_lcmp dX11_inLowestTerms_19 ?_
      refine z_if_eq 44 dX11_inLowestTerms_20 rfl (fun hc2 => ?_) (fun hc2 => ?_)
      · replace h := oT hc2 h
        refine z_lv (lv2 := [(0, .long x0), (2, .long x2), (4, .int x4), (5, .long x5)]) [0, 1, 2, 3] rfl ?_
        exact t_Fm_inLowestTerms_44 hd0  x0 x2 x4 x5 _ h
      · replace h := oF hc2 h
        refine z_lload dX11_inLowestTerms_23 3 rfl ?_
        refine z_lload dX11_inLowestTerms_25 4 rfl ?_
        obtain ⟨hz3, h⟩ := oifn h
        refine z_lrem dX11_inLowestTerms_27 hz3 ?_
        refine z_lstore (M := mX11_inLowestTerms) (lv2 := [(10, .long (x5 - x5 / x7 * x7)), (0, .long x0), (2, .long x2), (4, .int x4), (5, .long x5), (7, .long x7), (9, .int x9)]) dX11_inLowestTerms_28 (Nat.le_of_ble_eq_true rfl) rfl ?_
        refine z_lload dX11_inLowestTerms_30 5 rfl ?_
        refine z_lstore (M := mX11_inLowestTerms) (lv2 := [(5, .long x7), (10, .long (x5 - x5 / x7 * x7)), (0, .long x0), (2, .long x2), (4, .int x4), (7, .long x7), (9, .int x9)]) dX11_inLowestTerms_32 (Nat.le_of_ble_eq_true rfl) rfl ?_
        refine z_lload dX11_inLowestTerms_34 1 rfl ?_
        refine z_lstore (M := mX11_inLowestTerms) (lv2 := [(7, .long (x5 - x5 / x7 * x7)), (5, .long x7), (10, .long (x5 - x5 / x7 * x7)), (0, .long x0), (2, .long x2), (4, .int x4), (9, .int x9)]) dX11_inLowestTerms_36 (Nat.le_of_ble_eq_true rfl) rfl ?_
        refine z_iinc (M := mX11_inLowestTerms) (v := (x9 + (1 : Int32))) (lv2 := [(9, .int (x9 + (1 : Int32))), (7, .long (x5 - x5 / x7 * x7)), (5, .long x7), (10, .long (x5 - x5 / x7 * x7)), (0, .long x0), (2, .long x2), (4, .int x4)]) dX11_inLowestTerms_38 6 rfl rfl (Nat.le_of_ble_eq_true rfl) rfl ?_
        refine z_goto 9 dX11_inLowestTerms_41 rfl ?_
        refine z_lv (lv2 := [(0, .long x0), (2, .long x2), (4, .int x4), (5, .long x7), (7, .long (x5 - x5 / x7 * x7)), (9, .int (x9 + (1 : Int32)))]) [4, 5, 6, 2, 1, 0] rfl ?_
        exact ih x0 x2 x4 x7 (x5 - x5 / x7 * x7) (x9 + (1 : Int32)) _ h
def Fm_inLowestTerms (x0 : Int64) (x2 : Int64) (x4 : Int32) : Option Int64 :=
  Fm_inLowestTerms_9 FU x0 x2 x4 x2 x0 (0 : Int32)
set_option maxRecDepth 100000 in
set_option maxHeartbeats 4000000 in
theorem t_Fm_inLowestTerms {g : GG} {d : Nat} {μ : Mm} (hd0 : 1 ≤ d) : ∀ (x0 : Int64) (x2 : Int64) (x4 : Int32) (r : Int64), Fm_inLowestTerms x0 x2 x4 = some r → Z g d (0, 0) mX11_inLowestTerms 333 0 0 0 [(0, .long x0), (2, .long x2), (4, .int x4)] [] μ (zF g (some (.long r), μ)) := by
  intro x0 x2 x4 r h
  unfold Fm_inLowestTerms at h
  refine z_lload_n dX11_inLowestTerms_0 1 rfl ?_
  refine z_lstore (M := mX11_inLowestTerms) (lv2 := [(5, .long x2), (0, .long x0), (2, .long x2), (4, .int x4)]) dX11_inLowestTerms_1 (Nat.le_of_ble_eq_true rfl) rfl ?_
  refine z_lload_n dX11_inLowestTerms_3 1 rfl ?_
  refine z_lstore (M := mX11_inLowestTerms) (lv2 := [(7, .long x0), (5, .long x2), (0, .long x0), (2, .long x2), (4, .int x4)]) dX11_inLowestTerms_4 (Nat.le_of_ble_eq_true rfl) rfl ?_
  refine z_iconst (M := mX11_inLowestTerms) (v := 0) dX11_inLowestTerms_6 rfl ?_
  refine z_istore (M := mX11_inLowestTerms) (lv2 := [(9, .int (0 : Int32)), (7, .long x0), (5, .long x2), (0, .long x0), (2, .long x2), (4, .int x4)]) dX11_inLowestTerms_7 (Nat.le_of_ble_eq_true rfl) rfl ?_
  refine z_lv (lv2 := [(0, .long x0), (2, .long x2), (4, .int x4), (5, .long x2), (7, .long x0), (9, .int (0 : Int32))]) [3, 4, 5, 2, 1, 0] rfl ?_
  exact t_Fm_inLowestTerms_9 hd0 FU x0 x2 x4 x2 x0 (0 : Int32) _ h
theorem ct_Fm_inLowestTerms {g : GG} {d : Nat} {x0 : Int64} {x2 : Int64} {x4 : Int32} {μ : Mm} {r : Int64} (hd0 : 1 ≤ d)  (h : Fm_inLowestTerms x0 x2 x4 = some r) : Ct g d mX11_inLowestTerms [.long x0, .long x2, .int x4] μ (some (.long r), μ) := y_entry in_X11_inLowestTerms (Nat.le_of_ble_eq_true rfl) rfl (t_Fm_inLowestTerms hd0 x0 x2 x4 r h)
-- FuseMinutes.power(JI)J
theorem dX11_power_0 : decode cX11_power 0 = .ok (.lconst 1, 1) := by decide +kernel
theorem dX11_power_1 : decode cX11_power 1 = .ok (.lstore_n 3, 1) := by decide +kernel
theorem dX11_power_2 : decode cX11_power 2 = .ok (.iconst 0, 1) := by decide +kernel
theorem dX11_power_3 : decode cX11_power 3 = .ok (.istore 5, 2) := by decide +kernel
theorem dX11_power_5 : decode cX11_power 5 = .ok (.iload 5, 2) := by decide +kernel
theorem dX11_power_7 : decode cX11_power 7 = .ok (.iload_n 2, 1) := by decide +kernel
theorem dX11_power_8 : decode cX11_power 8 = .ok (.if_icmp .ge 13, 3) := by decide +kernel
theorem dX11_power_11 : decode cX11_power 11 = .ok (.lload_n 3, 1) := by decide +kernel
theorem dX11_power_12 : decode cX11_power 12 = .ok (.lload_n 0, 1) := by decide +kernel
theorem dX11_power_13 : decode cX11_power 13 = .ok (.lmul, 1) := by decide +kernel
theorem dX11_power_14 : decode cX11_power 14 = .ok (.lstore_n 3, 1) := by decide +kernel
theorem dX11_power_15 : decode cX11_power 15 = .ok (.iinc 5 1, 3) := by decide +kernel
theorem dX11_power_18 : decode cX11_power 18 = .ok (.goto (-13), 3) := by decide +kernel
theorem dX11_power_21 : decode cX11_power 21 = .ok (.lload_n 3, 1) := by decide +kernel
theorem dX11_power_22 : decode cX11_power 22 = .ok (.lreturn, 1) := by decide +kernel
def Fm_power_5 : Nat → Int64 → Int32 → Int64 → Int32 → Option Int64
  | 0, _, _, _, _ => none
  | f + 1, x0, x2, x3, x5 =>
    (if x2 ≤ x5 then
      some x3
    else
      (Fm_power_5 f) x0 x2 (x3 * x0) (x5 + (1 : Int32)))
set_option maxRecDepth 100000 in
set_option maxHeartbeats 4000000 in
theorem t_Fm_power_5 {g : GG} {d : Nat} {μ : Mm} (hd0 : 1 ≤ d) : ∀ (f : Nat), ∀ (x0 : Int64) (x2 : Int32) (x3 : Int64) (x5 : Int32) (r : Int64), Fm_power_5 f x0 x2 x3 x5 = some r → Z g d (0, 0) mX11_power 333 0 0 5 [(0, .long x0), (2, .int x2), (3, .long x3), (5, .int x5)] [] μ (zF g (some (.long r), μ)) := by
  intro f
  induction f with
  | zero =>
    intro x0 x2 x3 x5 r h
    cases h
  | succ f ih =>
    intro x0 x2 x3 x5 r h
    rw [Fm_power_5] at h
    refine z_iload dX11_power_5 3 rfl ?_
    refine z_iload_n dX11_power_7 1 rfl ?_
    refine z_icmp_ge 21 dX11_power_8 rfl (fun hc1 => ?_) (fun hc1 => ?_)
    · replace h := oT hc1 h
      refine z_lload_n dX11_power_21 2 rfl ?_
      cases h
      exact z_lret dX11_power_22 rfl
    · replace h := oF hc1 h
      refine z_lload_n dX11_power_11 2 rfl ?_
      refine z_lload_n dX11_power_12 0 rfl ?_
      refine z_lmul dX11_power_13 ?_
      refine z_lstore_n (M := mX11_power) (lv2 := [(3, .long (x3 * x0)), (0, .long x0), (2, .int x2), (5, .int x5)]) dX11_power_14 (Nat.le_of_ble_eq_true rfl) rfl ?_
      refine z_iinc (M := mX11_power) (v := (x5 + (1 : Int32))) (lv2 := [(5, .int (x5 + (1 : Int32))), (3, .long (x3 * x0)), (0, .long x0), (2, .int x2)]) dX11_power_15 3 rfl rfl (Nat.le_of_ble_eq_true rfl) rfl ?_
      refine z_goto 5 dX11_power_18 rfl ?_
      refine z_lv (lv2 := [(0, .long x0), (2, .int x2), (3, .long (x3 * x0)), (5, .int (x5 + (1 : Int32)))]) [2, 3, 1, 0] rfl ?_
      exact ih x0 x2 (x3 * x0) (x5 + (1 : Int32)) _ h
def Fm_power (x0 : Int64) (x2 : Int32) : Option Int64 :=
  Fm_power_5 FU x0 x2 (1 : Int64) (0 : Int32)
set_option maxRecDepth 100000 in
set_option maxHeartbeats 4000000 in
theorem t_Fm_power {g : GG} {d : Nat} {μ : Mm} (hd0 : 1 ≤ d) : ∀ (x0 : Int64) (x2 : Int32) (r : Int64), Fm_power x0 x2 = some r → Z g d (0, 0) mX11_power 333 0 0 0 [(0, .long x0), (2, .int x2)] [] μ (zF g (some (.long r), μ)) := by
  intro x0 x2 r h
  unfold Fm_power at h
  refine z_lconst (M := mX11_power) (v := 1) dX11_power_0 rfl ?_
  refine z_lstore_n (M := mX11_power) (lv2 := [(3, .long (1 : Int64)), (0, .long x0), (2, .int x2)]) dX11_power_1 (Nat.le_of_ble_eq_true rfl) rfl ?_
  refine z_iconst (M := mX11_power) (v := 0) dX11_power_2 rfl ?_
  refine z_istore (M := mX11_power) (lv2 := [(5, .int (0 : Int32)), (3, .long (1 : Int64)), (0, .long x0), (2, .int x2)]) dX11_power_3 (Nat.le_of_ble_eq_true rfl) rfl ?_
  refine z_lv (lv2 := [(0, .long x0), (2, .int x2), (3, .long (1 : Int64)), (5, .int (0 : Int32))]) [2, 3, 1, 0] rfl ?_
  exact t_Fm_power_5 hd0 FU x0 x2 (1 : Int64) (0 : Int32) _ h
theorem ct_Fm_power {g : GG} {d : Nat} {x0 : Int64} {x2 : Int32} {μ : Mm} {r : Int64} (hd0 : 1 ≤ d)  (h : Fm_power x0 x2 = some r) : Ct g d mX11_power [.long x0, .int x2] μ (some (.long r), μ) := y_entry in_X11_power (Nat.le_of_ble_eq_true rfl) rfl (t_Fm_power hd0 x0 x2 r h)
-- FuseMinutes.right(IIZ)J
theorem dX11_right_0 : decode cX11_right 0 = .ok (.iload_n 1, 1) := by decide +kernel
theorem dX11_right_1 : decode cX11_right 1 = .ok (.iconst 0, 1) := by decide +kernel
theorem dX11_right_2 : decode cX11_right 2 = .ok (.bipush 12, 2) := by decide +kernel
theorem dX11_right_4 : decode cX11_right 4 = .ok (.invokestatic 72, 3) := by decide +kernel
theorem dX11_right_7 : decode cX11_right 7 = .ok (.ifCond .eq 13, 3) := by decide +kernel
theorem dX11_right_10 : decode cX11_right 10 = .ok (.iload_n 2, 1) := by decide +kernel
theorem dX11_right_11 : decode cX11_right 11 = .ok (.iconst 0, 1) := by decide +kernel
theorem dX11_right_12 : decode cX11_right 12 = .ok (.bipush 10, 2) := by decide +kernel
theorem dX11_right_14 : decode cX11_right 14 = .ok (.invokestatic 72, 3) := by decide +kernel
theorem dX11_right_17 : decode cX11_right 17 = .ok (.ifCond .ne 7, 3) := by decide +kernel
theorem dX11_right_20 : decode cX11_right 20 = .ok (.ldc2_w 324, 3) := by decide +kernel
theorem dX11_right_23 : decode cX11_right 23 = .ok (.lreturn, 1) := by decide +kernel
theorem dX11_right_24 : decode cX11_right 24 = .ok (.bipush 10, 2) := by decide +kernel
theorem dX11_right_26 : decode cX11_right 26 = .ok (.iload_n 2, 1) := by decide +kernel
theorem dX11_right_27 : decode cX11_right 27 = .ok (.isub, 1) := by decide +kernel
theorem dX11_right_28 : decode cX11_right 28 = .ok (.i2l, 1) := by decide +kernel
theorem dX11_right_29 : decode cX11_right 29 = .ok (.iload_n 1, 1) := by decide +kernel
theorem dX11_right_30 : decode cX11_right 30 = .ok (.invokestatic 326, 3) := by decide +kernel
theorem dX11_right_33 : decode cX11_right 33 = .ok (.lstore 4, 2) := by decide +kernel
theorem dX11_right_35 : decode cX11_right 35 = .ok (.lload 4, 2) := by decide +kernel
theorem dX11_right_37 : decode cX11_right 37 = .ok (.ldc2_w 330, 3) := by decide +kernel
theorem dX11_right_40 : decode cX11_right 40 = .ok (.iload_n 1, 1) := by decide +kernel
theorem dX11_right_41 : decode cX11_right 41 = .ok (.invokestatic 326, 3) := by decide +kernel
theorem dX11_right_44 : decode cX11_right 44 = .ok (.iload_n 3, 1) := by decide +kernel
theorem dX11_right_45 : decode cX11_right 45 = .ok (.invokestatic 332, 3) := by decide +kernel
theorem dX11_right_48 : decode cX11_right 48 = .ok (.lreturn, 1) := by decide +kernel
def Fm_right (x1 : Int32) (x2 : Int32) (x3 : Int32) : Option Int64 :=
  (Fm_within x1 (0 : Int32) (12 : Int32)).bind fun v1 =>
  (if (b2i v1) = 0 then
    some (-1 : Int64)
  else
    (Fm_within x2 (0 : Int32) (10 : Int32)).bind fun v3 =>
    (if ¬ (b2i v3) = 0 then
      (Fm_power ((10 : Int32) - x2).toInt64 x1).bind fun v5 =>
      (Fm_power (10 : Int64) x1).bind fun v6 =>
      (Fm_inLowestTerms v5 v6 x3).bind fun v7 =>
      some v7
    else
      some (-1 : Int64)))
set_option maxRecDepth 100000 in
set_option maxHeartbeats 4000000 in
theorem t_Fm_right {g : GG} {d : Nat} {μ : Mm} (hd0 : 2 ≤ d) : ∀ (x1 : Int32) (x2 : Int32) (x3 : Int32) (r : Int64), Fm_right x1 x2 x3 = some r → Z g d (0, 0) mX11_right 333 0 0 0 [(0, .ref 0), (1, .int x1), (2, .int x2), (3, .int x3)] [] μ (zF g (some (.long r), μ)) := by
  intro x1 x2 x3 r h
  unfold Fm_right at h
  refine z_iload_n dX11_right_0 1 rfl ?_
  refine z_iconst (M := mX11_right) (v := 0) dX11_right_1 rfl ?_
  refine z_bipush (M := mX11_right) (v := 12) dX11_right_2 rfl ?_
  obtain ⟨v1, he1, h⟩ := obind h
  refine y_Si (M := mX11_right) (Y := mX11_within) (d2 := d - 1) (As := [.int x1, .int (0 : Int32), .int (12 : Int32)]) (st := []) dX11_right_4 mlRX11_72 cv_X11_within (ct_Fm_within (dle (Nat.le_of_ble_eq_true rfl) hd0) he1) (dps (Nat.le_of_ble_eq_true rfl) hd0) rfl rfl (Nat.le_of_ble_eq_true rfl) ?_
  refine z_if_eq 20 dX11_right_7 rfl (fun hc2 => ?_) (fun hc2 => ?_)
  · replace h := oT hc2 h
    refine z_ldc2 dX11_right_20 csRX11_324 ?_
    cases h
    exact z_lret dX11_right_23 rfl
  · replace h := oF hc2 h
    refine z_iload_n dX11_right_10 2 rfl ?_
    refine z_iconst (M := mX11_right) (v := 0) dX11_right_11 rfl ?_
    refine z_bipush (M := mX11_right) (v := 10) dX11_right_12 rfl ?_
    obtain ⟨v3, he3, h⟩ := obind h
    refine y_Si (M := mX11_right) (Y := mX11_within) (d2 := d - 1) (As := [.int x2, .int (0 : Int32), .int (10 : Int32)]) (st := []) dX11_right_14 mlRX11_72 cv_X11_within (ct_Fm_within (dle (Nat.le_of_ble_eq_true rfl) hd0) he3) (dps (Nat.le_of_ble_eq_true rfl) hd0) rfl rfl (Nat.le_of_ble_eq_true rfl) ?_
    refine z_if_ne 24 dX11_right_17 rfl (fun hc4 => ?_) (fun hc4 => ?_)
    · replace h := oT hc4 h
      refine z_bipush (M := mX11_right) (v := 10) dX11_right_24 rfl ?_
      refine z_iload_n dX11_right_26 2 rfl ?_
      refine z_isub dX11_right_27 ?_
      refine z_i2l dX11_right_28 ?_
      refine z_iload_n dX11_right_29 1 rfl ?_
      obtain ⟨v5, he5, h⟩ := obind h
      refine y_Sl (M := mX11_right) (Y := mX11_power) (d2 := d - 1) (As := [.long ((10 : Int32) - x2).toInt64, .int x1]) (st := []) dX11_right_30 mlRX11_326 cv_X11_power (ct_Fm_power (dle (Nat.le_of_ble_eq_true rfl) hd0) he5) (dps (Nat.le_of_ble_eq_true rfl) hd0) rfl rfl (Nat.le_of_ble_eq_true rfl) ?_
      refine z_lstore (M := mX11_right) (lv2 := [(4, .long v5), (0, .ref 0), (1, .int x1), (2, .int x2), (3, .int x3)]) dX11_right_33 (Nat.le_of_ble_eq_true rfl) rfl ?_
      refine z_lload dX11_right_35 0 rfl ?_
      refine z_ldc2 dX11_right_37 csRX11_330 ?_
      refine z_iload_n dX11_right_40 2 rfl ?_
      obtain ⟨v6, he6, h⟩ := obind h
      refine y_Sl (M := mX11_right) (Y := mX11_power) (d2 := d - 1) (As := [.long (10 : Int64), .int x1]) (st := [.long v5]) dX11_right_41 mlRX11_326 cv_X11_power (ct_Fm_power (dle (Nat.le_of_ble_eq_true rfl) hd0) he6) (dps (Nat.le_of_ble_eq_true rfl) hd0) rfl rfl (Nat.le_of_ble_eq_true rfl) ?_
      refine z_iload_n dX11_right_44 4 rfl ?_
      obtain ⟨v7, he7, h⟩ := obind h
      refine y_Sl (M := mX11_right) (Y := mX11_inLowestTerms) (d2 := d - 1) (As := [.long v5, .long v6, .int x3]) (st := []) dX11_right_45 mlRX11_332 cv_X11_inLowestTerms (ct_Fm_inLowestTerms (dle (Nat.le_of_ble_eq_true rfl) hd0) he7) (dps (Nat.le_of_ble_eq_true rfl) hd0) rfl rfl (Nat.le_of_ble_eq_true rfl) ?_
      cases h
      exact z_lret dX11_right_48 rfl
    · replace h := oFn hc4 h
      refine z_ldc2 dX11_right_20 csRX11_324 ?_
      cases h
      exact z_lret dX11_right_23 rfl
theorem ct_Fm_right {g : GG} {d : Nat} {x1 : Int32} {x2 : Int32} {x3 : Int32} {μ : Mm} {r : Int64} (hd0 : 2 ≤ d)  (h : Fm_right x1 x2 x3 = some r) : Ct g d mX11_right [.ref 0, .int x1, .int x2, .int x3] μ (some (.long r), μ) := y_entry in_X11_right (Nat.le_of_ble_eq_true rfl) rfl (t_Fm_right hd0 x1 x2 x3 r h)
-- FuseMinutes.tries(IIIZ)J
theorem dX11_tries_0 : decode cX11_tries 0 = .ok (.iload_n 1, 1) := by decide +kernel
theorem dX11_tries_1 : decode cX11_tries 1 = .ok (.iconst 0, 1) := by decide +kernel
theorem dX11_tries_2 : decode cX11_tries 2 = .ok (.iconst 3, 1) := by decide +kernel
theorem dX11_tries_3 : decode cX11_tries 3 = .ok (.invokestatic 72, 3) := by decide +kernel
theorem dX11_tries_6 : decode cX11_tries 6 = .ok (.ifCond .eq 16, 3) := by decide +kernel
theorem dX11_tries_9 : decode cX11_tries 9 = .ok (.iload_n 3, 1) := by decide +kernel
theorem dX11_tries_10 : decode cX11_tries 10 = .ok (.iconst 1, 1) := by decide +kernel
theorem dX11_tries_11 : decode cX11_tries 11 = .ok (.iconst 4, 1) := by decide +kernel
theorem dX11_tries_12 : decode cX11_tries 12 = .ok (.invokestatic 72, 3) := by decide +kernel
theorem dX11_tries_15 : decode cX11_tries 15 = .ok (.ifCond .eq 7, 3) := by decide +kernel
theorem dX11_tries_18 : decode cX11_tries 18 = .ok (.iconst 1, 1) := by decide +kernel
theorem dX11_tries_19 : decode cX11_tries 19 = .ok (.goto 4, 3) := by decide +kernel
theorem dX11_tries_22 : decode cX11_tries 22 = .ok (.iconst 0, 1) := by decide +kernel
theorem dX11_tries_23 : decode cX11_tries 23 = .ok (.istore 5, 2) := by decide +kernel
theorem dX11_tries_25 : decode cX11_tries 25 = .ok (.iload 5, 2) := by decide +kernel
theorem dX11_tries_27 : decode cX11_tries 27 = .ok (.ifCond .eq 13, 3) := by decide +kernel
theorem dX11_tries_30 : decode cX11_tries 30 = .ok (.iload_n 2, 1) := by decide +kernel
theorem dX11_tries_31 : decode cX11_tries 31 = .ok (.iconst 0, 1) := by decide +kernel
theorem dX11_tries_32 : decode cX11_tries 32 = .ok (.bipush 10, 2) := by decide +kernel
theorem dX11_tries_34 : decode cX11_tries 34 = .ok (.invokestatic 72, 3) := by decide +kernel
theorem dX11_tries_37 : decode cX11_tries 37 = .ok (.ifCond .ne 7, 3) := by decide +kernel
theorem dX11_tries_40 : decode cX11_tries 40 = .ok (.ldc2_w 324, 3) := by decide +kernel
theorem dX11_tries_43 : decode cX11_tries 43 = .ok (.lreturn, 1) := by decide +kernel
theorem dX11_tries_44 : decode cX11_tries 44 = .ok (.ldc2_w 330, 3) := by decide +kernel
theorem dX11_tries_47 : decode cX11_tries 47 = .ok (.iload_n 3, 1) := by decide +kernel
theorem dX11_tries_48 : decode cX11_tries 48 = .ok (.invokestatic 326, 3) := by decide +kernel
theorem dX11_tries_51 : decode cX11_tries 51 = .ok (.lstore 6, 2) := by decide +kernel
theorem dX11_tries_53 : decode cX11_tries 53 = .ok (.lload 6, 2) := by decide +kernel
theorem dX11_tries_55 : decode cX11_tries 55 = .ok (.iload_n 2, 1) := by decide +kernel
theorem dX11_tries_56 : decode cX11_tries 56 = .ok (.i2l, 1) := by decide +kernel
theorem dX11_tries_57 : decode cX11_tries 57 = .ok (.iload_n 3, 1) := by decide +kernel
theorem dX11_tries_58 : decode cX11_tries 58 = .ok (.invokestatic 326, 3) := by decide +kernel
theorem dX11_tries_61 : decode cX11_tries 61 = .ok (.lsub, 1) := by decide +kernel
theorem dX11_tries_62 : decode cX11_tries 62 = .ok (.lstore 8, 2) := by decide +kernel
theorem dX11_tries_64 : decode cX11_tries 64 = .ok (.lload 8, 2) := by decide +kernel
theorem dX11_tries_66 : decode cX11_tries 66 = .ok (.iload_n 1, 1) := by decide +kernel
theorem dX11_tries_67 : decode cX11_tries 67 = .ok (.invokestatic 326, 3) := by decide +kernel
theorem dX11_tries_70 : decode cX11_tries 70 = .ok (.lload 6, 2) := by decide +kernel
theorem dX11_tries_72 : decode cX11_tries 72 = .ok (.iload_n 1, 1) := by decide +kernel
theorem dX11_tries_73 : decode cX11_tries 73 = .ok (.invokestatic 326, 3) := by decide +kernel
theorem dX11_tries_76 : decode cX11_tries 76 = .ok (.iload 4, 2) := by decide +kernel
theorem dX11_tries_78 : decode cX11_tries 78 = .ok (.invokestatic 332, 3) := by decide +kernel
theorem dX11_tries_81 : decode cX11_tries 81 = .ok (.lreturn, 1) := by decide +kernel
def Fm_tries_23 (x1 : Int32) (x2 : Int32) (x3 : Int32) (x4 : Int32) (s0 : Int32) : Option Int64 :=
  (if s0 = 0 then
    some (-1 : Int64)
  else
    (Fm_within x2 (0 : Int32) (10 : Int32)).bind fun v2 =>
    (if ¬ (b2i v2) = 0 then
      (Fm_power (10 : Int64) x3).bind fun v4 =>
      (Fm_power x2.toInt64 x3).bind fun v5 =>
      (Fm_power (v4 - v5) x1).bind fun v6 =>
      (Fm_power v4 x1).bind fun v7 =>
      (Fm_inLowestTerms v6 v7 x4).bind fun v8 =>
      some v8
    else
      some (-1 : Int64)))
set_option maxRecDepth 100000 in
set_option maxHeartbeats 4000000 in
theorem t_Fm_tries_23 {g : GG} {d : Nat} {μ : Mm} (hd0 : 2 ≤ d) : ∀ (x1 : Int32) (x2 : Int32) (x3 : Int32) (x4 : Int32) (s0 : Int32) (r : Int64), Fm_tries_23 x1 x2 x3 x4 s0 = some r → Z g d (0, 0) mX11_tries 333 0 0 23 [(1, .int x1), (2, .int x2), (3, .int x3), (4, .int x4)] [.int s0] μ (zF g (some (.long r), μ)) := by
  intro x1 x2 x3 x4 s0 r h
  unfold Fm_tries_23 at h
  refine z_istore (M := mX11_tries) (lv2 := [(5, .int s0), (1, .int x1), (2, .int x2), (3, .int x3), (4, .int x4)]) dX11_tries_23 (Nat.le_of_ble_eq_true rfl) rfl ?_
  refine z_iload dX11_tries_25 0 rfl ?_
  refine z_if_eq 40 dX11_tries_27 rfl (fun hc1 => ?_) (fun hc1 => ?_)
  · replace h := oT hc1 h
    refine z_ldc2 dX11_tries_40 csRX11_324 ?_
    cases h
    exact z_lret dX11_tries_43 rfl
  · replace h := oF hc1 h
    refine z_iload_n dX11_tries_30 2 rfl ?_
    refine z_iconst (M := mX11_tries) (v := 0) dX11_tries_31 rfl ?_
    refine z_bipush (M := mX11_tries) (v := 10) dX11_tries_32 rfl ?_
    obtain ⟨v2, he2, h⟩ := obind h
    refine y_Si (M := mX11_tries) (Y := mX11_within) (d2 := d - 1) (As := [.int x2, .int (0 : Int32), .int (10 : Int32)]) (st := []) dX11_tries_34 mlRX11_72 cv_X11_within (ct_Fm_within (dle (Nat.le_of_ble_eq_true rfl) hd0) he2) (dps (Nat.le_of_ble_eq_true rfl) hd0) rfl rfl (Nat.le_of_ble_eq_true rfl) ?_
    refine z_if_ne 44 dX11_tries_37 rfl (fun hc3 => ?_) (fun hc3 => ?_)
    · replace h := oT hc3 h
      refine z_ldc2 dX11_tries_44 csRX11_330 ?_
      refine z_iload_n dX11_tries_47 3 rfl ?_
      obtain ⟨v4, he4, h⟩ := obind h
      refine y_Sl (M := mX11_tries) (Y := mX11_power) (d2 := d - 1) (As := [.long (10 : Int64), .int x3]) (st := []) dX11_tries_48 mlRX11_326 cv_X11_power (ct_Fm_power (dle (Nat.le_of_ble_eq_true rfl) hd0) he4) (dps (Nat.le_of_ble_eq_true rfl) hd0) rfl rfl (Nat.le_of_ble_eq_true rfl) ?_
      refine z_lstore (M := mX11_tries) (lv2 := [(6, .long v4), (5, .int s0), (1, .int x1), (2, .int x2), (3, .int x3), (4, .int x4)]) dX11_tries_51 (Nat.le_of_ble_eq_true rfl) rfl ?_
      refine z_lload dX11_tries_53 0 rfl ?_
      refine z_iload_n dX11_tries_55 3 rfl ?_
      refine z_i2l dX11_tries_56 ?_
      refine z_iload_n dX11_tries_57 4 rfl ?_
      obtain ⟨v5, he5, h⟩ := obind h
      refine y_Sl (M := mX11_tries) (Y := mX11_power) (d2 := d - 1) (As := [.long x2.toInt64, .int x3]) (st := [.long v4]) dX11_tries_58 mlRX11_326 cv_X11_power (ct_Fm_power (dle (Nat.le_of_ble_eq_true rfl) hd0) he5) (dps (Nat.le_of_ble_eq_true rfl) hd0) rfl rfl (Nat.le_of_ble_eq_true rfl) ?_
      refine z_lsub dX11_tries_61 ?_
      refine z_lstore (M := mX11_tries) (lv2 := [(8, .long (v4 - v5)), (6, .long v4), (5, .int s0), (1, .int x1), (2, .int x2), (3, .int x3), (4, .int x4)]) dX11_tries_62 (Nat.le_of_ble_eq_true rfl) rfl ?_
      refine z_lload dX11_tries_64 0 rfl ?_
      refine z_iload_n dX11_tries_66 3 rfl ?_
      obtain ⟨v6, he6, h⟩ := obind h
      refine y_Sl (M := mX11_tries) (Y := mX11_power) (d2 := d - 1) (As := [.long (v4 - v5), .int x1]) (st := []) dX11_tries_67 mlRX11_326 cv_X11_power (ct_Fm_power (dle (Nat.le_of_ble_eq_true rfl) hd0) he6) (dps (Nat.le_of_ble_eq_true rfl) hd0) rfl rfl (Nat.le_of_ble_eq_true rfl) ?_
      refine z_lload dX11_tries_70 1 rfl ?_
      refine z_iload_n dX11_tries_72 3 rfl ?_
      obtain ⟨v7, he7, h⟩ := obind h
      refine y_Sl (M := mX11_tries) (Y := mX11_power) (d2 := d - 1) (As := [.long v4, .int x1]) (st := [.long v6]) dX11_tries_73 mlRX11_326 cv_X11_power (ct_Fm_power (dle (Nat.le_of_ble_eq_true rfl) hd0) he7) (dps (Nat.le_of_ble_eq_true rfl) hd0) rfl rfl (Nat.le_of_ble_eq_true rfl) ?_
      refine z_iload dX11_tries_76 6 rfl ?_
      obtain ⟨v8, he8, h⟩ := obind h
      refine y_Sl (M := mX11_tries) (Y := mX11_inLowestTerms) (d2 := d - 1) (As := [.long v6, .long v7, .int x4]) (st := []) dX11_tries_78 mlRX11_332 cv_X11_inLowestTerms (ct_Fm_inLowestTerms (dle (Nat.le_of_ble_eq_true rfl) hd0) he8) (dps (Nat.le_of_ble_eq_true rfl) hd0) rfl rfl (Nat.le_of_ble_eq_true rfl) ?_
      cases h
      exact z_lret dX11_tries_81 rfl
    · replace h := oFn hc3 h
      refine z_ldc2 dX11_tries_40 csRX11_324 ?_
      cases h
      exact z_lret dX11_tries_43 rfl
def Fm_tries_22 (x1 : Int32) (x2 : Int32) (x3 : Int32) (x4 : Int32) : Option Int64 :=
  Fm_tries_23 x1 x2 x3 x4 (0 : Int32)
set_option maxRecDepth 100000 in
set_option maxHeartbeats 4000000 in
theorem t_Fm_tries_22 {g : GG} {d : Nat} {μ : Mm} (hd0 : 2 ≤ d) : ∀ (x1 : Int32) (x2 : Int32) (x3 : Int32) (x4 : Int32) (r : Int64), Fm_tries_22 x1 x2 x3 x4 = some r → Z g d (0, 0) mX11_tries 333 0 0 22 [(1, .int x1), (2, .int x2), (3, .int x3), (4, .int x4)] [] μ (zF g (some (.long r), μ)) := by
  intro x1 x2 x3 x4 r h
  unfold Fm_tries_22 at h
  refine z_iconst (M := mX11_tries) (v := 0) dX11_tries_22 rfl ?_
  exact t_Fm_tries_23 hd0  x1 x2 x3 x4 (0 : Int32) _ h
def Fm_tries (x1 : Int32) (x2 : Int32) (x3 : Int32) (x4 : Int32) : Option Int64 :=
  (Fm_within x1 (0 : Int32) (3 : Int32)).bind fun v1 =>
  (if (b2i v1) = 0 then
    Fm_tries_22 x1 x2 x3 x4
  else
    (Fm_within x3 (1 : Int32) (4 : Int32)).bind fun v3 =>
    (if (b2i v3) = 0 then
      Fm_tries_22 x1 x2 x3 x4
    else
      Fm_tries_23 x1 x2 x3 x4 (1 : Int32)))
set_option maxRecDepth 100000 in
set_option maxHeartbeats 4000000 in
theorem t_Fm_tries {g : GG} {d : Nat} {μ : Mm} (hd0 : 2 ≤ d) : ∀ (x1 : Int32) (x2 : Int32) (x3 : Int32) (x4 : Int32) (r : Int64), Fm_tries x1 x2 x3 x4 = some r → Z g d (0, 0) mX11_tries 333 0 0 0 [(0, .ref 0), (1, .int x1), (2, .int x2), (3, .int x3), (4, .int x4)] [] μ (zF g (some (.long r), μ)) := by
  intro x1 x2 x3 x4 r h
  unfold Fm_tries at h
  refine z_iload_n dX11_tries_0 1 rfl ?_
  refine z_iconst (M := mX11_tries) (v := 0) dX11_tries_1 rfl ?_
  refine z_iconst (M := mX11_tries) (v := 3) dX11_tries_2 rfl ?_
  obtain ⟨v1, he1, h⟩ := obind h
  refine y_Si (M := mX11_tries) (Y := mX11_within) (d2 := d - 1) (As := [.int x1, .int (0 : Int32), .int (3 : Int32)]) (st := []) dX11_tries_3 mlRX11_72 cv_X11_within (ct_Fm_within (dle (Nat.le_of_ble_eq_true rfl) hd0) he1) (dps (Nat.le_of_ble_eq_true rfl) hd0) rfl rfl (Nat.le_of_ble_eq_true rfl) ?_
  refine z_if_eq 22 dX11_tries_6 rfl (fun hc2 => ?_) (fun hc2 => ?_)
  · replace h := oT hc2 h
    refine z_lv (lv2 := [(1, .int x1), (2, .int x2), (3, .int x3), (4, .int x4)]) [1, 2, 3, 4] rfl ?_
    exact t_Fm_tries_22 hd0  x1 x2 x3 x4 _ h
  · replace h := oF hc2 h
    refine z_iload_n dX11_tries_9 3 rfl ?_
    refine z_iconst (M := mX11_tries) (v := 1) dX11_tries_10 rfl ?_
    refine z_iconst (M := mX11_tries) (v := 4) dX11_tries_11 rfl ?_
    obtain ⟨v3, he3, h⟩ := obind h
    refine y_Si (M := mX11_tries) (Y := mX11_within) (d2 := d - 1) (As := [.int x3, .int (1 : Int32), .int (4 : Int32)]) (st := []) dX11_tries_12 mlRX11_72 cv_X11_within (ct_Fm_within (dle (Nat.le_of_ble_eq_true rfl) hd0) he3) (dps (Nat.le_of_ble_eq_true rfl) hd0) rfl rfl (Nat.le_of_ble_eq_true rfl) ?_
    refine z_if_eq 22 dX11_tries_15 rfl (fun hc4 => ?_) (fun hc4 => ?_)
    · replace h := oT hc4 h
      refine z_lv (lv2 := [(1, .int x1), (2, .int x2), (3, .int x3), (4, .int x4)]) [1, 2, 3, 4] rfl ?_
      exact t_Fm_tries_22 hd0  x1 x2 x3 x4 _ h
    · replace h := oF hc4 h
      refine z_iconst (M := mX11_tries) (v := 1) dX11_tries_18 rfl ?_
      refine z_goto 23 dX11_tries_19 rfl ?_
      refine z_lv (lv2 := [(1, .int x1), (2, .int x2), (3, .int x3), (4, .int x4)]) [1, 2, 3, 4] rfl ?_
      exact t_Fm_tries_23 hd0  x1 x2 x3 x4 (1 : Int32) _ h
theorem ct_Fm_tries {g : GG} {d : Nat} {x1 : Int32} {x2 : Int32} {x3 : Int32} {x4 : Int32} {μ : Mm} {r : Int64} (hd0 : 2 ≤ d)  (h : Fm_tries x1 x2 x3 x4 = some r) : Ct g d mX11_tries [.ref 0, .int x1, .int x2, .int x3, .int x4] μ (some (.long r), μ) := y_entry in_X11_tries (Nat.le_of_ble_eq_true rfl) rfl (t_Fm_tries hd0 x1 x2 x3 x4 r h)
-- FuseMinutes.said(II)I
theorem dX11_said_0 : decode cX11_said 0 = .ok (.iload_n 1, 1) := by decide +kernel
theorem dX11_said_1 : decode cX11_said 1 = .ok (.iconst (-1), 1) := by decide +kernel
theorem dX11_said_2 : decode cX11_said 2 = .ok (.if_icmp .ne 16, 3) := by decide +kernel
theorem dX11_said_5 : decode cX11_said 5 = .ok (.aload_n 0, 1) := by decide +kernel
theorem dX11_said_6 : decode cX11_said 6 = .ok (.getfield 12, 3) := by decide +kernel
theorem dX11_said_9 : decode cX11_said 9 = .ok (.getfield 336, 3) := by decide +kernel
theorem dX11_said_12 : decode cX11_said 12 = .ok (.iconst 0, 1) := by decide +kernel
theorem dX11_said_13 : decode cX11_said 13 = .ok (.putfield 276, 3) := by decide +kernel
theorem dX11_said_16 : decode cX11_said 16 = .ok (.iconst 0, 1) := by decide +kernel
theorem dX11_said_17 : decode cX11_said 17 = .ok (.ireturn, 1) := by decide +kernel
theorem dX11_said_18 : decode cX11_said 18 = .ok (.aload_n 0, 1) := by decide +kernel
theorem dX11_said_19 : decode cX11_said 19 = .ok (.getfield 12, 3) := by decide +kernel
theorem dX11_said_22 : decode cX11_said 22 = .ok (.getfield 62, 3) := by decide +kernel
theorem dX11_said_25 : decode cX11_said 25 = .ok (.iload_n 1, 1) := by decide +kernel
theorem dX11_said_26 : decode cX11_said 26 = .ok (.invokevirtual 190, 3) := by decide +kernel
theorem dX11_said_29 : decode cX11_said 29 = .ok (.ifCond .eq 13, 3) := by decide +kernel
theorem dX11_said_32 : decode cX11_said 32 = .ok (.iload_n 2, 1) := by decide +kernel
theorem dX11_said_33 : decode cX11_said 33 = .ok (.iconst 0, 1) := by decide +kernel
theorem dX11_said_34 : decode cX11_said 34 = .ok (.bipush 10, 2) := by decide +kernel
theorem dX11_said_36 : decode cX11_said 36 = .ok (.invokestatic 72, 3) := by decide +kernel
theorem dX11_said_39 : decode cX11_said 39 = .ok (.ifCond .ne 6, 3) := by decide +kernel
theorem dX11_said_42 : decode cX11_said 42 = .ok (.bipush (-2), 2) := by decide +kernel
theorem dX11_said_44 : decode cX11_said 44 = .ok (.ireturn, 1) := by decide +kernel
theorem dX11_said_45 : decode cX11_said 45 = .ok (.aload_n 0, 1) := by decide +kernel
theorem dX11_said_46 : decode cX11_said 46 = .ok (.getfield 12, 3) := by decide +kernel
theorem dX11_said_49 : decode cX11_said 49 = .ok (.getfield 336, 3) := by decide +kernel
theorem dX11_said_52 : decode cX11_said 52 = .ok (.iload_n 1, 1) := by decide +kernel
theorem dX11_said_53 : decode cX11_said 53 = .ok (.bipush 11, 2) := by decide +kernel
theorem dX11_said_55 : decode cX11_said 55 = .ok (.imul, 1) := by decide +kernel
theorem dX11_said_56 : decode cX11_said 56 = .ok (.iload_n 2, 1) := by decide +kernel
theorem dX11_said_57 : decode cX11_said 57 = .ok (.iadd, 1) := by decide +kernel
theorem dX11_said_58 : decode cX11_said 58 = .ok (.invokevirtual 279, 3) := by decide +kernel
theorem dX11_said_61 : decode cX11_said 61 = .ok (.ifCond .eq 16, 3) := by decide +kernel
theorem dX11_said_64 : decode cX11_said 64 = .ok (.aload_n 0, 1) := by decide +kernel
theorem dX11_said_65 : decode cX11_said 65 = .ok (.getfield 12, 3) := by decide +kernel
theorem dX11_said_68 : decode cX11_said 68 = .ok (.getfield 336, 3) := by decide +kernel
theorem dX11_said_71 : decode cX11_said 71 = .ok (.getfield 276, 3) := by decide +kernel
theorem dX11_said_74 : decode cX11_said 74 = .ok (.goto 5, 3) := by decide +kernel
theorem dX11_said_77 : decode cX11_said 77 = .ok (.bipush (-2), 2) := by decide +kernel
theorem dX11_said_79 : decode cX11_said 79 = .ok (.ireturn, 1) := by decide +kernel
def Fm_said (x1 : Int32) (x2 : Int32) (ν : Nm) : Option (Int32 × Nm) :=
  (if ¬ x1 = (-1 : Int32) then
    (Pt_has ν 2 x1).bind fun v2 =>
    (if (b2i v2) = 0 then
      some ((-2 : Int32), ν)
    else
      (Fm_within x2 (0 : Int32) (10 : Int32)).bind fun v4 =>
      (if ¬ (b2i v4) = 0 then
        (To_add 134 ((x1 * (11 : Int32)) + x2) ν).bind fun v6 =>
        (if (b2i v6.1) = 0 then
          some ((-2 : Int32), v6.2)
        else
          some ((gi v6.2 134 1), v6.2))
      else
        some ((-2 : Int32), ν)))
  else
    some ((0 : Int32), (si ν 134 1 (0 : Int32))))
set_option maxRecDepth 100000 in
set_option maxHeartbeats 4000000 in
theorem t_Fm_said {g : GG} {d : Nat} (hd0 : 2 ≤ d) : ∀ (x1 : Int32) (x2 : Int32) (ν : Nm) (r : (Int32 × Nm)), Fm_said x1 x2 ν = some r → Z g d (0, 0) mX11_said 333 0 0 0 [(0, .ref 0), (1, .int x1), (2, .int x2)] [] (zem ν) (zF g (some (.int r.1), zem r.2)) := by
  intro x1 x2 ν r h
  unfold Fm_said at h
  refine z_iload_n dX11_said_0 1 rfl ?_
  refine z_iconst (M := mX11_said) (v := -1) dX11_said_1 rfl ?_
  refine z_icmp_ne 18 dX11_said_2 rfl (fun hc1 => ?_) (fun hc1 => ?_)
  · replace h := oT hc1 h
    refine z_aload_n dX11_said_18 0 rfl ?_
    refine y_getR (M := mX11_said) (r := 1) dX11_said_19 zk_0 flRX11_12 fr_9_0.1 (fr_9_0.2 _) ?_
    refine y_getR (M := mX11_said) (r := 2) dX11_said_22 zk_1 flRX11_62 fr_5_0.1 (fr_5_0.2 _) ?_
    refine z_iload_n dX11_said_25 1 rfl ?_
    obtain ⟨v2, he2, h⟩ := obind h
    refine y_Vi (M := mX11_said) (Y := mX2_has) (d2 := d - 1) (As := [.int x1]) (st := []) dX11_said_26 mlRX11_190 cv_X2_has zk_2 (ct_Pt_has (dle (Nat.le_of_ble_eq_true rfl) hd0) zk_2 he2) (dps (Nat.le_of_ble_eq_true rfl) hd0) rfl rfl (Nat.le_of_ble_eq_true rfl) ?_
    refine z_if_eq 42 dX11_said_29 rfl (fun hc3 => ?_) (fun hc3 => ?_)
    · replace h := oT hc3 h
      refine z_bipush (M := mX11_said) (v := -2) dX11_said_42 rfl ?_
      cases h
      exact z_iret dX11_said_44 rfl
    · replace h := oF hc3 h
      refine z_iload_n dX11_said_32 2 rfl ?_
      refine z_iconst (M := mX11_said) (v := 0) dX11_said_33 rfl ?_
      refine z_bipush (M := mX11_said) (v := 10) dX11_said_34 rfl ?_
      obtain ⟨v4, he4, h⟩ := obind h
      refine y_Si (M := mX11_said) (Y := mX11_within) (d2 := d - 1) (As := [.int x2, .int (0 : Int32), .int (10 : Int32)]) (st := []) dX11_said_36 mlRX11_72 cv_X11_within (ct_Fm_within (dle (Nat.le_of_ble_eq_true rfl) hd0) he4) (dps (Nat.le_of_ble_eq_true rfl) hd0) rfl rfl (Nat.le_of_ble_eq_true rfl) ?_
      refine z_if_ne 45 dX11_said_39 rfl (fun hc5 => ?_) (fun hc5 => ?_)
      · replace h := oT hc5 h
        refine z_aload_n dX11_said_45 0 rfl ?_
        refine y_getR (M := mX11_said) (r := 1) dX11_said_46 zk_0 flRX11_12 fr_9_0.1 (fr_9_0.2 _) ?_
        refine y_getR (M := mX11_said) (r := 134) dX11_said_49 zk_1 flRX11_336 fr_5_10.1 (fr_5_10.2 _) ?_
        refine z_iload_n dX11_said_52 1 rfl ?_
        refine z_bipush (M := mX11_said) (v := 11) dX11_said_53 rfl ?_
        refine z_imul dX11_said_55 ?_
        refine z_iload_n dX11_said_56 2 rfl ?_
        refine z_iadd dX11_said_57 ?_
        obtain ⟨v6, he6, h⟩ := obind h
        refine y_Vi (M := mX11_said) (Y := mX10_add) (d2 := d - 1) (As := [.int ((x1 * (11 : Int32)) + x2)]) (st := []) dX11_said_58 mlRX11_279 cv_X10_add zk_134 (ct_To_add (dle (Nat.le_of_ble_eq_true rfl) hd0) zk_134 he6) (dps (Nat.le_of_ble_eq_true rfl) hd0) rfl rfl (Nat.le_of_ble_eq_true rfl) ?_
        refine z_if_eq 77 dX11_said_61 rfl (fun hc7 => ?_) (fun hc7 => ?_)
        · replace h := oT hc7 h
          refine z_bipush (M := mX11_said) (v := -2) dX11_said_77 rfl ?_
          cases h
          exact z_iret dX11_said_79 rfl
        · replace h := oF hc7 h
          refine z_aload_n dX11_said_64 0 rfl ?_
          refine y_getR (M := mX11_said) (r := 1) dX11_said_65 zk_0 flRX11_12 fr_9_0.1 (fr_9_0.2 _) ?_
          refine y_getR (M := mX11_said) (r := 134) dX11_said_68 zk_1 flRX11_336 fr_5_10.1 (fr_5_10.2 _) ?_
          refine y_getI dX11_said_71 zk_134 flRX11_276 ?_
          refine z_goto 79 dX11_said_74 rfl ?_
          cases h
          exact z_iret dX11_said_79 rfl
      · replace h := oFn hc5 h
        refine z_bipush (M := mX11_said) (v := -2) dX11_said_42 rfl ?_
        cases h
        exact z_iret dX11_said_44 rfl
  · replace h := oFn hc1 h
    refine z_aload_n dX11_said_5 0 rfl ?_
    refine y_getR (M := mX11_said) (r := 1) dX11_said_6 zk_0 flRX11_12 fr_9_0.1 (fr_9_0.2 _) ?_
    refine y_getR (M := mX11_said) (r := 134) dX11_said_9 zk_1 flRX11_336 fr_5_10.1 (fr_5_10.2 _) ?_
    refine z_iconst (M := mX11_said) (v := 0) dX11_said_12 rfl ?_
    refine y_putI dX11_said_13 zk_134 flRX11_276 ⟨rfl, rfl⟩ ?_
    refine z_iconst (M := mX11_said) (v := 0) dX11_said_16 rfl ?_
    cases h
    exact z_iret dX11_said_17 rfl
theorem ct_Fm_said {g : GG} {d : Nat} {x1 : Int32} {x2 : Int32} {ν : Nm} {r : (Int32 × Nm)} (hd0 : 2 ≤ d)  (h : Fm_said x1 x2 ν = some r) : Ct g d mX11_said [.ref 0, .int x1, .int x2] (zem ν) (some (.int r.1), zem r.2) := y_entry in_X11_said (Nat.le_of_ble_eq_true rfl) rfl (t_Fm_said hd0 x1 x2 ν r h)
-- FuseMinutes.agreesWithAllSaid(I)Z
theorem dX11_agreesWithAllSaid_0 : decode cX11_agreesWithAllSaid 0 = .ok (.aload_n 0, 1) := by decide +kernel
theorem dX11_agreesWithAllSaid_1 : decode cX11_agreesWithAllSaid 1 = .ok (.getfield 12, 3) := by decide +kernel
theorem dX11_agreesWithAllSaid_4 : decode cX11_agreesWithAllSaid 4 = .ok (.getfield 336, 3) := by decide +kernel
theorem dX11_agreesWithAllSaid_7 : decode cX11_agreesWithAllSaid 7 = .ok (.astore_n 2, 1) := by decide +kernel
theorem dX11_agreesWithAllSaid_8 : decode cX11_agreesWithAllSaid 8 = .ok (.iconst 0, 1) := by decide +kernel
theorem dX11_agreesWithAllSaid_9 : decode cX11_agreesWithAllSaid 9 = .ok (.istore_n 3, 1) := by decide +kernel
theorem dX11_agreesWithAllSaid_10 : decode cX11_agreesWithAllSaid 10 = .ok (.iload_n 3, 1) := by decide +kernel
theorem dX11_agreesWithAllSaid_11 : decode cX11_agreesWithAllSaid 11 = .ok (.aload_n 2, 1) := by decide +kernel
theorem dX11_agreesWithAllSaid_12 : decode cX11_agreesWithAllSaid 12 = .ok (.getfield 276, 3) := by decide +kernel
theorem dX11_agreesWithAllSaid_15 : decode cX11_agreesWithAllSaid 15 = .ok (.if_icmp .ge 50, 3) := by decide +kernel
theorem dX11_agreesWithAllSaid_18 : decode cX11_agreesWithAllSaid 18 = .ok (.iload_n 3, 1) := by decide +kernel
theorem dX11_agreesWithAllSaid_19 : decode cX11_agreesWithAllSaid 19 = .ok (.aload_n 2, 1) := by decide +kernel
theorem dX11_agreesWithAllSaid_20 : decode cX11_agreesWithAllSaid 20 = .ok (.getfield 394, 3) := by decide +kernel
theorem dX11_agreesWithAllSaid_23 : decode cX11_agreesWithAllSaid 23 = .ok (.arraylength, 1) := by decide +kernel
theorem dX11_agreesWithAllSaid_24 : decode cX11_agreesWithAllSaid 24 = .ok (.if_icmp .ge 41, 3) := by decide +kernel
theorem dX11_agreesWithAllSaid_27 : decode cX11_agreesWithAllSaid 27 = .ok (.aload_n 2, 1) := by decide +kernel
theorem dX11_agreesWithAllSaid_28 : decode cX11_agreesWithAllSaid 28 = .ok (.getfield 394, 3) := by decide +kernel
theorem dX11_agreesWithAllSaid_31 : decode cX11_agreesWithAllSaid 31 = .ok (.iload_n 3, 1) := by decide +kernel
theorem dX11_agreesWithAllSaid_32 : decode cX11_agreesWithAllSaid 32 = .ok (.iaload, 1) := by decide +kernel
theorem dX11_agreesWithAllSaid_33 : decode cX11_agreesWithAllSaid 33 = .ok (.bipush 11, 2) := by decide +kernel
theorem dX11_agreesWithAllSaid_35 : decode cX11_agreesWithAllSaid 35 = .ok (.idiv, 1) := by decide +kernel
theorem dX11_agreesWithAllSaid_36 : decode cX11_agreesWithAllSaid 36 = .ok (.istore 4, 2) := by decide +kernel
theorem dX11_agreesWithAllSaid_38 : decode cX11_agreesWithAllSaid 38 = .ok (.aload_n 0, 1) := by decide +kernel
theorem dX11_agreesWithAllSaid_39 : decode cX11_agreesWithAllSaid 39 = .ok (.iload_n 1, 1) := by decide +kernel
theorem dX11_agreesWithAllSaid_40 : decode cX11_agreesWithAllSaid 40 = .ok (.iload 4, 2) := by decide +kernel
theorem dX11_agreesWithAllSaid_42 : decode cX11_agreesWithAllSaid 42 = .ok (.invokevirtual 205, 3) := by decide +kernel
theorem dX11_agreesWithAllSaid_45 : decode cX11_agreesWithAllSaid 45 = .ok (.aload_n 2, 1) := by decide +kernel
theorem dX11_agreesWithAllSaid_46 : decode cX11_agreesWithAllSaid 46 = .ok (.getfield 394, 3) := by decide +kernel
theorem dX11_agreesWithAllSaid_49 : decode cX11_agreesWithAllSaid 49 = .ok (.iload_n 3, 1) := by decide +kernel
theorem dX11_agreesWithAllSaid_50 : decode cX11_agreesWithAllSaid 50 = .ok (.iaload, 1) := by decide +kernel
theorem dX11_agreesWithAllSaid_51 : decode cX11_agreesWithAllSaid 51 = .ok (.bipush 11, 2) := by decide +kernel
theorem dX11_agreesWithAllSaid_53 : decode cX11_agreesWithAllSaid 53 = .ok (.irem, 1) := by decide +kernel
theorem dX11_agreesWithAllSaid_54 : decode cX11_agreesWithAllSaid 54 = .ok (.if_icmp .eq 5, 3) := by decide +kernel
theorem dX11_agreesWithAllSaid_57 : decode cX11_agreesWithAllSaid 57 = .ok (.iconst 0, 1) := by decide +kernel
theorem dX11_agreesWithAllSaid_58 : decode cX11_agreesWithAllSaid 58 = .ok (.ireturn, 1) := by decide +kernel
theorem dX11_agreesWithAllSaid_59 : decode cX11_agreesWithAllSaid 59 = .ok (.iinc 3 1, 3) := by decide +kernel
theorem dX11_agreesWithAllSaid_62 : decode cX11_agreesWithAllSaid 62 = .ok (.goto (-52), 3) := by decide +kernel
theorem dX11_agreesWithAllSaid_65 : decode cX11_agreesWithAllSaid 65 = .ok (.iconst 1, 1) := by decide +kernel
theorem dX11_agreesWithAllSaid_66 : decode cX11_agreesWithAllSaid 66 = .ok (.ireturn, 1) := by decide +kernel
def Fm_agreesWithAllSaid_10 : Nat → Int32 → Int32 → Nm → Option (Bool × Nm)
  | 0, _, _, _ => none
  | f + 1, x1, x3, ν =>
    (if (gi ν 134 1) ≤ x3 then
      some (true, ν)
    else
      (if (8 : Int32) ≤ x3 then
        some (true, ν)
      else
        if inb x3 8 then
        (Fm_failsSays x1 ((gi ν 135 x3.toNatClampNeg) / (11 : Int32)) ν).bind fun v4 =>
        if inb x3 8 then
        (if v4.1 = ((gi v4.2 135 x3.toNatClampNeg) - (gi v4.2 135 x3.toNatClampNeg) / (11 : Int32) * (11 : Int32)) then
          (Fm_agreesWithAllSaid_10 f) x1 (x3 + (1 : Int32)) v4.2
        else
          some (false, v4.2))
        else none
        else none))
set_option maxRecDepth 100000 in
set_option maxHeartbeats 4000000 in
theorem t_Fm_agreesWithAllSaid_10 {g : GG} {d : Nat} (hd0 : 5 ≤ d) : ∀ (f : Nat), ∀ (x1 : Int32) (x3 : Int32) (ν : Nm) (r : (Bool × Nm)), Fm_agreesWithAllSaid_10 f x1 x3 ν = some r → Z g d (0, 0) mX11_agreesWithAllSaid 333 0 0 10 [(0, .ref 0), (1, .int x1), (2, .ref 134), (3, .int x3)] [] (zem ν) (zF g (some (.int (b2i r.1)), zem r.2)) := by
  intro f
  induction f with
  | zero =>
    intro x1 x3 ν r h
    cases h
  | succ f ih =>
    intro x1 x3 ν r h
    rw [Fm_agreesWithAllSaid_10] at h
    refine z_iload_n dX11_agreesWithAllSaid_10 3 rfl ?_
    refine z_aload_n dX11_agreesWithAllSaid_11 2 rfl ?_
    refine y_getI dX11_agreesWithAllSaid_12 zk_134 flRX11_276 ?_
    refine z_icmp_ge 65 dX11_agreesWithAllSaid_15 rfl (fun hc1 => ?_) (fun hc1 => ?_)
    · replace h := oT hc1 h
      refine z_iconst (M := mX11_agreesWithAllSaid) (v := 1) dX11_agreesWithAllSaid_65 rfl ?_
      cases h
      exact z_zret dX11_agreesWithAllSaid_66 rfl rfl
    · replace h := oF hc1 h
      refine z_iload_n dX11_agreesWithAllSaid_18 3 rfl ?_
      refine z_aload_n dX11_agreesWithAllSaid_19 2 rfl ?_
      refine y_getR (M := mX11_agreesWithAllSaid) (r := 135) dX11_agreesWithAllSaid_20 zk_134 flRX11_394 fr_8_0.1 (fr_8_0.2 _) ?_
      refine z_alen (M := mX11_agreesWithAllSaid) (v := (8 : Int32)) dX11_agreesWithAllSaid_23 zk_135 rfl ?_
      refine z_icmp_ge 65 dX11_agreesWithAllSaid_24 rfl (fun hc2 => ?_) (fun hc2 => ?_)
      · replace h := oT hc2 h
        refine z_iconst (M := mX11_agreesWithAllSaid) (v := 1) dX11_agreesWithAllSaid_65 rfl ?_
        cases h
        exact z_zret dX11_agreesWithAllSaid_66 rfl rfl
      · replace h := oF hc2 h
        refine z_aload_n dX11_agreesWithAllSaid_27 2 rfl ?_
        refine y_getR (M := mX11_agreesWithAllSaid) (r := 135) dX11_agreesWithAllSaid_28 zk_134 flRX11_394 fr_8_0.1 (fr_8_0.2 _) ?_
        refine z_iload_n dX11_agreesWithAllSaid_31 3 rfl ?_
        obtain ⟨hi3, h⟩ := oif h
        refine y_iald (M := mX11_agreesWithAllSaid) (jj := x3.toNatClampNeg) dX11_agreesWithAllSaid_32 zk_135 hi3 rfl ?_
        refine z_bipush (M := mX11_agreesWithAllSaid) (v := 11) dX11_agreesWithAllSaid_33 rfl ?_
        refine z_idiv dX11_agreesWithAllSaid_35 (by decide) ?_
        refine z_istore (M := mX11_agreesWithAllSaid) (lv2 := [(4, .int ((gi ν 135 x3.toNatClampNeg) / (11 : Int32))), (0, .ref 0), (1, .int x1), (2, .ref 134), (3, .int x3)]) dX11_agreesWithAllSaid_36 (Nat.le_of_ble_eq_true rfl) rfl ?_
        refine z_aload_n dX11_agreesWithAllSaid_38 1 rfl ?_
        refine z_iload_n dX11_agreesWithAllSaid_39 2 rfl ?_
        refine z_iload dX11_agreesWithAllSaid_40 0 rfl ?_
        obtain ⟨v4, he4, h⟩ := obind h
        refine y_Vi (M := mX11_agreesWithAllSaid) (Y := mX11_failsSays) (d2 := d - 1) (As := [.int x1, .int ((gi ν 135 x3.toNatClampNeg) / (11 : Int32))]) (st := []) dX11_agreesWithAllSaid_42 mlRX11_205 cv_X11_failsSays zk_0 (ct_Fm_failsSays (dle (Nat.le_of_ble_eq_true rfl) hd0) he4) (dps (Nat.le_of_ble_eq_true rfl) hd0) rfl rfl (Nat.le_of_ble_eq_true rfl) ?_
        refine z_aload_n dX11_agreesWithAllSaid_45 3 rfl ?_
        refine y_getR (M := mX11_agreesWithAllSaid) (r := 135) dX11_agreesWithAllSaid_46 zk_134 flRX11_394 fr_8_0.1 (fr_8_0.2 _) ?_
        refine z_iload_n dX11_agreesWithAllSaid_49 4 rfl ?_
        obtain ⟨hi5, h⟩ := oif h
        refine y_iald (M := mX11_agreesWithAllSaid) (jj := x3.toNatClampNeg) dX11_agreesWithAllSaid_50 zk_135 hi5 rfl ?_
        refine z_bipush (M := mX11_agreesWithAllSaid) (v := 11) dX11_agreesWithAllSaid_51 rfl ?_
        refine z_irem dX11_agreesWithAllSaid_53 (by decide) ?_
        refine z_icmp_eq 59 dX11_agreesWithAllSaid_54 rfl (fun hc6 => ?_) (fun hc6 => ?_)
        · replace h := oT hc6 h
          refine z_iinc (M := mX11_agreesWithAllSaid) (v := (x3 + (1 : Int32))) (lv2 := [(3, .int (x3 + (1 : Int32))), (4, .int ((gi ν 135 x3.toNatClampNeg) / (11 : Int32))), (0, .ref 0), (1, .int x1), (2, .ref 134)]) dX11_agreesWithAllSaid_59 4 rfl rfl (Nat.le_of_ble_eq_true rfl) rfl ?_
          refine z_goto 10 dX11_agreesWithAllSaid_62 rfl ?_
          refine z_lv (lv2 := [(0, .ref 0), (1, .int x1), (2, .ref 134), (3, .int (x3 + (1 : Int32)))]) [2, 3, 4, 0] rfl ?_
          exact ih x1 (x3 + (1 : Int32)) v4.2 _ h
        · replace h := oF hc6 h
          refine z_iconst (M := mX11_agreesWithAllSaid) (v := 0) dX11_agreesWithAllSaid_57 rfl ?_
          cases h
          exact z_zret dX11_agreesWithAllSaid_58 rfl rfl
def Fm_agreesWithAllSaid (x1 : Int32) (ν : Nm) : Option (Bool × Nm) :=
  Fm_agreesWithAllSaid_10 FU x1 (0 : Int32) ν
set_option maxRecDepth 100000 in
set_option maxHeartbeats 4000000 in
theorem t_Fm_agreesWithAllSaid {g : GG} {d : Nat} (hd0 : 5 ≤ d) : ∀ (x1 : Int32) (ν : Nm) (r : (Bool × Nm)), Fm_agreesWithAllSaid x1 ν = some r → Z g d (0, 0) mX11_agreesWithAllSaid 333 0 0 0 [(0, .ref 0), (1, .int x1)] [] (zem ν) (zF g (some (.int (b2i r.1)), zem r.2)) := by
  intro x1 ν r h
  unfold Fm_agreesWithAllSaid at h
  refine z_aload_n dX11_agreesWithAllSaid_0 0 rfl ?_
  refine y_getR (M := mX11_agreesWithAllSaid) (r := 1) dX11_agreesWithAllSaid_1 zk_0 flRX11_12 fr_9_0.1 (fr_9_0.2 _) ?_
  refine y_getR (M := mX11_agreesWithAllSaid) (r := 134) dX11_agreesWithAllSaid_4 zk_1 flRX11_336 fr_5_10.1 (fr_5_10.2 _) ?_
  refine z_astore_n (M := mX11_agreesWithAllSaid) (lv2 := [(2, .ref 134), (0, .ref 0), (1, .int x1)]) dX11_agreesWithAllSaid_7 (Nat.le_of_ble_eq_true rfl) rfl ?_
  refine z_iconst (M := mX11_agreesWithAllSaid) (v := 0) dX11_agreesWithAllSaid_8 rfl ?_
  refine z_istore_n (M := mX11_agreesWithAllSaid) (lv2 := [(3, .int (0 : Int32)), (2, .ref 134), (0, .ref 0), (1, .int x1)]) dX11_agreesWithAllSaid_9 (Nat.le_of_ble_eq_true rfl) rfl ?_
  refine z_lv (lv2 := [(0, .ref 0), (1, .int x1), (2, .ref 134), (3, .int (0 : Int32))]) [2, 3, 1, 0] rfl ?_
  exact t_Fm_agreesWithAllSaid_10 hd0 FU x1 (0 : Int32) ν _ h
theorem ct_Fm_agreesWithAllSaid {g : GG} {d : Nat} {x1 : Int32} {ν : Nm} {r : (Bool × Nm)} (hd0 : 5 ≤ d)  (h : Fm_agreesWithAllSaid x1 ν = some r) : Ct g d mX11_agreesWithAllSaid [.ref 0, .int x1] (zem ν) (some (.int (b2i r.1)), zem r.2) := y_entry in_X11_agreesWithAllSaid (Nat.le_of_ble_eq_true rfl) rfl (t_Fm_agreesWithAllSaid hd0 x1 ν r h)
-- FuseMinutes.whose()I
theorem dX11_whose_0 : decode cX11_whose 0 = .ok (.iconst 0, 1) := by decide +kernel
theorem dX11_whose_1 : decode cX11_whose 1 = .ok (.istore_n 1, 1) := by decide +kernel
theorem dX11_whose_2 : decode cX11_whose 2 = .ok (.iconst 0, 1) := by decide +kernel
theorem dX11_whose_3 : decode cX11_whose 3 = .ok (.istore_n 2, 1) := by decide +kernel
theorem dX11_whose_4 : decode cX11_whose 4 = .ok (.iload_n 2, 1) := by decide +kernel
theorem dX11_whose_5 : decode cX11_whose 5 = .ok (.aload_n 0, 1) := by decide +kernel
theorem dX11_whose_6 : decode cX11_whose 6 = .ok (.getfield 12, 3) := by decide +kernel
theorem dX11_whose_9 : decode cX11_whose 9 = .ok (.getfield 95, 3) := by decide +kernel
theorem dX11_whose_12 : decode cX11_whose 12 = .ok (.if_icmp .ge 28, 3) := by decide +kernel
theorem dX11_whose_15 : decode cX11_whose 15 = .ok (.iload_n 2, 1) := by decide +kernel
theorem dX11_whose_16 : decode cX11_whose 16 = .ok (.iconst 4, 1) := by decide +kernel
theorem dX11_whose_17 : decode cX11_whose 17 = .ok (.if_icmp .ge 23, 3) := by decide +kernel
theorem dX11_whose_20 : decode cX11_whose 20 = .ok (.aload_n 0, 1) := by decide +kernel
theorem dX11_whose_21 : decode cX11_whose 21 = .ok (.iload_n 2, 1) := by decide +kernel
theorem dX11_whose_22 : decode cX11_whose 22 = .ok (.invokevirtual 339, 3) := by decide +kernel
theorem dX11_whose_25 : decode cX11_whose 25 = .ok (.ifCond .eq 9, 3) := by decide +kernel
theorem dX11_whose_28 : decode cX11_whose 28 = .ok (.iload_n 1, 1) := by decide +kernel
theorem dX11_whose_29 : decode cX11_whose 29 = .ok (.iconst 1, 1) := by decide +kernel
theorem dX11_whose_30 : decode cX11_whose 30 = .ok (.iload_n 2, 1) := by decide +kernel
theorem dX11_whose_31 : decode cX11_whose 31 = .ok (.ishl, 1) := by decide +kernel
theorem dX11_whose_32 : decode cX11_whose 32 = .ok (.ior, 1) := by decide +kernel
theorem dX11_whose_33 : decode cX11_whose 33 = .ok (.istore_n 1, 1) := by decide +kernel
theorem dX11_whose_34 : decode cX11_whose 34 = .ok (.iinc 2 1, 3) := by decide +kernel
theorem dX11_whose_37 : decode cX11_whose 37 = .ok (.goto (-33), 3) := by decide +kernel
theorem dX11_whose_40 : decode cX11_whose 40 = .ok (.iload_n 1, 1) := by decide +kernel
theorem dX11_whose_41 : decode cX11_whose 41 = .ok (.ireturn, 1) := by decide +kernel
def Fm_whose_34 (k4 : Int32 → Int32 → Nm → Option (Int32 × Nm)) (x1 : Int32) (x2 : Int32) (ν : Nm) : Option (Int32 × Nm) :=
  k4 x1 (x2 + (1 : Int32)) ν
set_option maxRecDepth 100000 in
set_option maxHeartbeats 4000000 in
theorem t_Fm_whose_34 {g : GG} {d : Nat} (hd0 : 6 ≤ d) {k4 : Int32 → Int32 → Nm → Option (Int32 × Nm)} (hk4 : ∀ (x1 : Int32) (x2 : Int32) (ν : Nm) (r : (Int32 × Nm)), k4 x1 x2 ν = some r → Z g d (0, 0) mX11_whose 333 0 0 4 [(0, .ref 0), (1, .int x1), (2, .int x2)] [] (zem ν) (zF g (some (.int r.1), zem r.2))) : ∀ (x1 : Int32) (x2 : Int32) (ν : Nm) (r : (Int32 × Nm)), Fm_whose_34 k4 x1 x2 ν = some r → Z g d (0, 0) mX11_whose 333 0 0 34 [(0, .ref 0), (1, .int x1), (2, .int x2)] [] (zem ν) (zF g (some (.int r.1), zem r.2)) := by
  intro x1 x2 ν r h
  unfold Fm_whose_34 at h
  refine z_iinc (M := mX11_whose) (v := (x2 + (1 : Int32))) (lv2 := [(2, .int (x2 + (1 : Int32))), (0, .ref 0), (1, .int x1)]) dX11_whose_34 2 rfl rfl (Nat.le_of_ble_eq_true rfl) rfl ?_
  refine z_goto 4 dX11_whose_37 rfl ?_
  refine z_lv (lv2 := [(0, .ref 0), (1, .int x1), (2, .int (x2 + (1 : Int32)))]) [1, 2, 0] rfl ?_
  exact hk4 x1 (x2 + (1 : Int32)) ν _ h
def Fm_whose_4 : Nat → Int32 → Int32 → Nm → Option (Int32 × Nm)
  | 0, _, _, _ => none
  | f + 1, x1, x2, ν =>
    (if (gi ν 1 6) ≤ x2 then
      some (x1, ν)
    else
      (if (4 : Int32) ≤ x2 then
        some (x1, ν)
      else
        (Fm_agreesWithAllSaid x2 ν).bind fun v3 =>
        (if (b2i v3.1) = 0 then
          Fm_whose_34 (Fm_whose_4 f) x1 x2 v3.2
        else
          Fm_whose_34 (Fm_whose_4 f) (x1 ||| ((1 : Int32) <<< (x2 &&& 31))) x2 v3.2)))
set_option maxRecDepth 100000 in
set_option maxHeartbeats 4000000 in
theorem t_Fm_whose_4 {g : GG} {d : Nat} (hd0 : 6 ≤ d) : ∀ (f : Nat), ∀ (x1 : Int32) (x2 : Int32) (ν : Nm) (r : (Int32 × Nm)), Fm_whose_4 f x1 x2 ν = some r → Z g d (0, 0) mX11_whose 333 0 0 4 [(0, .ref 0), (1, .int x1), (2, .int x2)] [] (zem ν) (zF g (some (.int r.1), zem r.2)) := by
  intro f
  induction f with
  | zero =>
    intro x1 x2 ν r h
    cases h
  | succ f ih =>
    intro x1 x2 ν r h
    rw [Fm_whose_4] at h
    refine z_iload_n dX11_whose_4 2 rfl ?_
    refine z_aload_n dX11_whose_5 0 rfl ?_
    refine y_getR (M := mX11_whose) (r := 1) dX11_whose_6 zk_0 flRX11_12 fr_9_0.1 (fr_9_0.2 _) ?_
    refine y_getI dX11_whose_9 zk_1 flRX11_95 ?_
    refine z_icmp_ge 40 dX11_whose_12 rfl (fun hc1 => ?_) (fun hc1 => ?_)
    · replace h := oT hc1 h
      refine z_iload_n dX11_whose_40 1 rfl ?_
      cases h
      exact z_iret dX11_whose_41 rfl
    · replace h := oF hc1 h
      refine z_iload_n dX11_whose_15 2 rfl ?_
      refine z_iconst (M := mX11_whose) (v := 4) dX11_whose_16 rfl ?_
      refine z_icmp_ge 40 dX11_whose_17 rfl (fun hc2 => ?_) (fun hc2 => ?_)
      · replace h := oT hc2 h
        refine z_iload_n dX11_whose_40 1 rfl ?_
        cases h
        exact z_iret dX11_whose_41 rfl
      · replace h := oF hc2 h
        refine z_aload_n dX11_whose_20 0 rfl ?_
        refine z_iload_n dX11_whose_21 2 rfl ?_
        obtain ⟨v3, he3, h⟩ := obind h
        refine y_Vi (M := mX11_whose) (Y := mX11_agreesWithAllSaid) (d2 := d - 1) (As := [.int x2]) (st := []) dX11_whose_22 mlRX11_339 cv_X11_agreesWithAllSaid zk_0 (ct_Fm_agreesWithAllSaid (dle (Nat.le_of_ble_eq_true rfl) hd0) he3) (dps (Nat.le_of_ble_eq_true rfl) hd0) rfl rfl (Nat.le_of_ble_eq_true rfl) ?_
        refine z_if_eq 34 dX11_whose_25 rfl (fun hc4 => ?_) (fun hc4 => ?_)
        · replace h := oT hc4 h
          exact t_Fm_whose_34 hd0 ih x1 x2 v3.2 _ h
        · replace h := oF hc4 h
          refine z_iload_n dX11_whose_28 1 rfl ?_
          refine z_iconst (M := mX11_whose) (v := 1) dX11_whose_29 rfl ?_
          refine z_iload_n dX11_whose_30 2 rfl ?_
          refine z_ishl dX11_whose_31 ?_
          refine z_ior dX11_whose_32 ?_
          refine z_istore_n (M := mX11_whose) (lv2 := [(1, .int (x1 ||| ((1 : Int32) <<< (x2 &&& 31)))), (0, .ref 0), (2, .int x2)]) dX11_whose_33 (Nat.le_of_ble_eq_true rfl) rfl ?_
          refine z_lv (lv2 := [(0, .ref 0), (1, .int (x1 ||| ((1 : Int32) <<< (x2 &&& 31)))), (2, .int x2)]) [1, 0, 2] rfl ?_
          exact t_Fm_whose_34 hd0 ih (x1 ||| ((1 : Int32) <<< (x2 &&& 31))) x2 v3.2 _ h
def Fm_whose (ν : Nm) : Option (Int32 × Nm) :=
  Fm_whose_4 FU (0 : Int32) (0 : Int32) ν
set_option maxRecDepth 100000 in
set_option maxHeartbeats 4000000 in
theorem t_Fm_whose {g : GG} {d : Nat} (hd0 : 6 ≤ d) : ∀ (ν : Nm) (r : (Int32 × Nm)), Fm_whose ν = some r → Z g d (0, 0) mX11_whose 333 0 0 0 [(0, .ref 0)] [] (zem ν) (zF g (some (.int r.1), zem r.2)) := by
  intro ν r h
  unfold Fm_whose at h
  refine z_iconst (M := mX11_whose) (v := 0) dX11_whose_0 rfl ?_
  refine z_istore_n (M := mX11_whose) (lv2 := [(1, .int (0 : Int32)), (0, .ref 0)]) dX11_whose_1 (Nat.le_of_ble_eq_true rfl) rfl ?_
  refine z_iconst (M := mX11_whose) (v := 0) dX11_whose_2 rfl ?_
  refine z_istore_n (M := mX11_whose) (lv2 := [(2, .int (0 : Int32)), (1, .int (0 : Int32)), (0, .ref 0)]) dX11_whose_3 (Nat.le_of_ble_eq_true rfl) rfl ?_
  refine z_lv (lv2 := [(0, .ref 0), (1, .int (0 : Int32)), (2, .int (0 : Int32))]) [2, 1, 0] rfl ?_
  exact t_Fm_whose_4 hd0 FU (0 : Int32) (0 : Int32) ν _ h
theorem ct_Fm_whose {g : GG} {d : Nat} {ν : Nm} {r : (Int32 × Nm)} (hd0 : 6 ≤ d)  (h : Fm_whose ν = some r) : Ct g d mX11_whose [.ref 0] (zem ν) (some (.int r.1), zem r.2) := y_entry in_X11_whose (Nat.le_of_ble_eq_true rfl) rfl (t_Fm_whose hd0 ν r h)
-- FuseMinutes.longest()I
theorem dX11_longest_0 : decode cX11_longest 0 = .ok (.iconst (-1), 1) := by decide +kernel
theorem dX11_longest_1 : decode cX11_longest 1 = .ok (.istore_n 1, 1) := by decide +kernel
theorem dX11_longest_2 : decode cX11_longest 2 = .ok (.iconst 0, 1) := by decide +kernel
theorem dX11_longest_3 : decode cX11_longest 3 = .ok (.istore_n 2, 1) := by decide +kernel
theorem dX11_longest_4 : decode cX11_longest 4 = .ok (.iconst 0, 1) := by decide +kernel
theorem dX11_longest_5 : decode cX11_longest 5 = .ok (.istore_n 3, 1) := by decide +kernel
theorem dX11_longest_6 : decode cX11_longest 6 = .ok (.iload_n 3, 1) := by decide +kernel
theorem dX11_longest_7 : decode cX11_longest 7 = .ok (.aload_n 0, 1) := by decide +kernel
theorem dX11_longest_8 : decode cX11_longest 8 = .ok (.getfield 12, 3) := by decide +kernel
theorem dX11_longest_11 : decode cX11_longest 11 = .ok (.getfield 62, 3) := by decide +kernel
theorem dX11_longest_14 : decode cX11_longest 14 = .ok (.getfield 66, 3) := by decide +kernel
theorem dX11_longest_17 : decode cX11_longest 17 = .ok (.if_icmp .ge 45, 3) := by decide +kernel
theorem dX11_longest_20 : decode cX11_longest 20 = .ok (.iload_n 3, 1) := by decide +kernel
theorem dX11_longest_21 : decode cX11_longest 21 = .ok (.iconst 4, 1) := by decide +kernel
theorem dX11_longest_22 : decode cX11_longest 22 = .ok (.if_icmp .ge 40, 3) := by decide +kernel
theorem dX11_longest_25 : decode cX11_longest 25 = .ok (.aload_n 0, 1) := by decide +kernel
theorem dX11_longest_26 : decode cX11_longest 26 = .ok (.getfield 12, 3) := by decide +kernel
theorem dX11_longest_29 : decode cX11_longest 29 = .ok (.getfield 62, 3) := by decide +kernel
theorem dX11_longest_32 : decode cX11_longest 32 = .ok (.getfield 193, 3) := by decide +kernel
theorem dX11_longest_35 : decode cX11_longest 35 = .ok (.iload_n 3, 1) := by decide +kernel
theorem dX11_longest_36 : decode cX11_longest 36 = .ok (.iaload, 1) := by decide +kernel
theorem dX11_longest_37 : decode cX11_longest 37 = .ok (.iload_n 2, 1) := by decide +kernel
theorem dX11_longest_38 : decode cX11_longest 38 = .ok (.if_icmp .le 18, 3) := by decide +kernel
theorem dX11_longest_41 : decode cX11_longest 41 = .ok (.aload_n 0, 1) := by decide +kernel
theorem dX11_longest_42 : decode cX11_longest 42 = .ok (.getfield 12, 3) := by decide +kernel
theorem dX11_longest_45 : decode cX11_longest 45 = .ok (.getfield 62, 3) := by decide +kernel
theorem dX11_longest_48 : decode cX11_longest 48 = .ok (.getfield 193, 3) := by decide +kernel
theorem dX11_longest_51 : decode cX11_longest 51 = .ok (.iload_n 3, 1) := by decide +kernel
theorem dX11_longest_52 : decode cX11_longest 52 = .ok (.iaload, 1) := by decide +kernel
theorem dX11_longest_53 : decode cX11_longest 53 = .ok (.istore_n 2, 1) := by decide +kernel
theorem dX11_longest_54 : decode cX11_longest 54 = .ok (.iload_n 3, 1) := by decide +kernel
theorem dX11_longest_55 : decode cX11_longest 55 = .ok (.istore_n 1, 1) := by decide +kernel
theorem dX11_longest_56 : decode cX11_longest 56 = .ok (.iinc 3 1, 3) := by decide +kernel
theorem dX11_longest_59 : decode cX11_longest 59 = .ok (.goto (-53), 3) := by decide +kernel
theorem dX11_longest_62 : decode cX11_longest 62 = .ok (.iload_n 1, 1) := by decide +kernel
theorem dX11_longest_63 : decode cX11_longest 63 = .ok (.ireturn, 1) := by decide +kernel
def Fm_longest_56 (ν : Nm) (k6 : Int32 → Int32 → Int32 → Option Int32) (x1 : Int32) (x2 : Int32) (x3 : Int32) : Option Int32 :=
  k6 x1 x2 (x3 + (1 : Int32))
set_option maxRecDepth 100000 in
set_option maxHeartbeats 4000000 in
theorem t_Fm_longest_56 {g : GG} {d : Nat} {ν : Nm} (hd0 : 1 ≤ d) {k6 : Int32 → Int32 → Int32 → Option Int32} (hk6 : ∀ (x1 : Int32) (x2 : Int32) (x3 : Int32) (r : Int32), k6 x1 x2 x3 = some r → Z g d (0, 0) mX11_longest 333 0 0 6 [(0, .ref 0), (1, .int x1), (2, .int x2), (3, .int x3)] [] (zem ν) (zF g (some (.int r), zem ν))) : ∀ (x1 : Int32) (x2 : Int32) (x3 : Int32) (r : Int32), Fm_longest_56 ν k6 x1 x2 x3 = some r → Z g d (0, 0) mX11_longest 333 0 0 56 [(0, .ref 0), (1, .int x1), (2, .int x2), (3, .int x3)] [] (zem ν) (zF g (some (.int r), zem ν)) := by
  intro x1 x2 x3 r h
  unfold Fm_longest_56 at h
  refine z_iinc (M := mX11_longest) (v := (x3 + (1 : Int32))) (lv2 := [(3, .int (x3 + (1 : Int32))), (0, .ref 0), (1, .int x1), (2, .int x2)]) dX11_longest_56 3 rfl rfl (Nat.le_of_ble_eq_true rfl) rfl ?_
  refine z_goto 6 dX11_longest_59 rfl ?_
  refine z_lv (lv2 := [(0, .ref 0), (1, .int x1), (2, .int x2), (3, .int (x3 + (1 : Int32)))]) [1, 2, 3, 0] rfl ?_
  exact hk6 x1 x2 (x3 + (1 : Int32)) _ h
def Fm_longest_6 (ν : Nm) : Nat → Int32 → Int32 → Int32 → Option Int32
  | 0, _, _, _ => none
  | f + 1, x1, x2, x3 =>
    (if (gi ν 2 0) ≤ x3 then
      some x1
    else
      (if (4 : Int32) ≤ x3 then
        some x1
      else
        if inb x3 4 then
        (if (gi ν 3 x3.toNatClampNeg) ≤ x2 then
          Fm_longest_56 ν (Fm_longest_6 ν f) x1 x2 x3
        else
          if inb x3 4 then
          Fm_longest_56 ν (Fm_longest_6 ν f) x3 (gi ν 3 x3.toNatClampNeg) x3
          else none)
        else none))
set_option maxRecDepth 100000 in
set_option maxHeartbeats 4000000 in
theorem t_Fm_longest_6 {g : GG} {d : Nat} {ν : Nm} (hd0 : 1 ≤ d) : ∀ (f : Nat), ∀ (x1 : Int32) (x2 : Int32) (x3 : Int32) (r : Int32), Fm_longest_6 ν f x1 x2 x3 = some r → Z g d (0, 0) mX11_longest 333 0 0 6 [(0, .ref 0), (1, .int x1), (2, .int x2), (3, .int x3)] [] (zem ν) (zF g (some (.int r), zem ν)) := by
  intro f
  induction f with
  | zero =>
    intro x1 x2 x3 r h
    cases h
  | succ f ih =>
    intro x1 x2 x3 r h
    rw [Fm_longest_6] at h
    refine z_iload_n dX11_longest_6 3 rfl ?_
    refine z_aload_n dX11_longest_7 0 rfl ?_
    refine y_getR (M := mX11_longest) (r := 1) dX11_longest_8 zk_0 flRX11_12 fr_9_0.1 (fr_9_0.2 _) ?_
    refine y_getR (M := mX11_longest) (r := 2) dX11_longest_11 zk_1 flRX11_62 fr_5_0.1 (fr_5_0.2 _) ?_
    refine y_getI dX11_longest_14 zk_2 flRX11_66 ?_
    refine z_icmp_ge 62 dX11_longest_17 rfl (fun hc1 => ?_) (fun hc1 => ?_)
    · replace h := oT hc1 h
      refine z_iload_n dX11_longest_62 1 rfl ?_
      cases h
      exact z_iret dX11_longest_63 rfl
    · replace h := oF hc1 h
      refine z_iload_n dX11_longest_20 3 rfl ?_
      refine z_iconst (M := mX11_longest) (v := 4) dX11_longest_21 rfl ?_
      refine z_icmp_ge 62 dX11_longest_22 rfl (fun hc2 => ?_) (fun hc2 => ?_)
      · replace h := oT hc2 h
        refine z_iload_n dX11_longest_62 1 rfl ?_
        cases h
        exact z_iret dX11_longest_63 rfl
      · replace h := oF hc2 h
        refine z_aload_n dX11_longest_25 0 rfl ?_
        refine y_getR (M := mX11_longest) (r := 1) dX11_longest_26 zk_0 flRX11_12 fr_9_0.1 (fr_9_0.2 _) ?_
        refine y_getR (M := mX11_longest) (r := 2) dX11_longest_29 zk_1 flRX11_62 fr_5_0.1 (fr_5_0.2 _) ?_
        refine y_getR (M := mX11_longest) (r := 3) dX11_longest_32 zk_2 flRX11_193 fr_1_4.1 (fr_1_4.2 _) ?_
        refine z_iload_n dX11_longest_35 3 rfl ?_
        obtain ⟨hi3, h⟩ := oif h
        refine y_iald (M := mX11_longest) (jj := x3.toNatClampNeg) dX11_longest_36 zk_3 hi3 rfl ?_
        refine z_iload_n dX11_longest_37 2 rfl ?_
        refine z_icmp_le 56 dX11_longest_38 rfl (fun hc4 => ?_) (fun hc4 => ?_)
        · replace h := oT hc4 h
          exact t_Fm_longest_56 hd0 ih x1 x2 x3 _ h
        · replace h := oF hc4 h
          refine z_aload_n dX11_longest_41 0 rfl ?_
          refine y_getR (M := mX11_longest) (r := 1) dX11_longest_42 zk_0 flRX11_12 fr_9_0.1 (fr_9_0.2 _) ?_
          refine y_getR (M := mX11_longest) (r := 2) dX11_longest_45 zk_1 flRX11_62 fr_5_0.1 (fr_5_0.2 _) ?_
          refine y_getR (M := mX11_longest) (r := 3) dX11_longest_48 zk_2 flRX11_193 fr_1_4.1 (fr_1_4.2 _) ?_
          refine z_iload_n dX11_longest_51 3 rfl ?_
          obtain ⟨hi5, h⟩ := oif h
          refine y_iald (M := mX11_longest) (jj := x3.toNatClampNeg) dX11_longest_52 zk_3 hi5 rfl ?_
          refine z_istore_n (M := mX11_longest) (lv2 := [(2, .int (gi ν 3 x3.toNatClampNeg)), (0, .ref 0), (1, .int x1), (3, .int x3)]) dX11_longest_53 (Nat.le_of_ble_eq_true rfl) rfl ?_
          refine z_iload_n dX11_longest_54 3 rfl ?_
          refine z_istore_n (M := mX11_longest) (lv2 := [(1, .int x3), (2, .int (gi ν 3 x3.toNatClampNeg)), (0, .ref 0), (3, .int x3)]) dX11_longest_55 (Nat.le_of_ble_eq_true rfl) rfl ?_
          refine z_lv (lv2 := [(0, .ref 0), (1, .int x3), (2, .int (gi ν 3 x3.toNatClampNeg)), (3, .int x3)]) [2, 0, 1, 3] rfl ?_
          exact t_Fm_longest_56 hd0 ih x3 (gi ν 3 x3.toNatClampNeg) x3 _ h
def Fm_longest (ν : Nm) : Option Int32 :=
  Fm_longest_6 ν FU (-1 : Int32) (0 : Int32) (0 : Int32)
set_option maxRecDepth 100000 in
set_option maxHeartbeats 4000000 in
theorem t_Fm_longest {g : GG} {d : Nat} {ν : Nm} (hd0 : 1 ≤ d) : ∀ (r : Int32), Fm_longest ν = some r → Z g d (0, 0) mX11_longest 333 0 0 0 [(0, .ref 0)] [] (zem ν) (zF g (some (.int r), zem ν)) := by
  intro r h
  unfold Fm_longest at h
  refine z_iconst (M := mX11_longest) (v := -1) dX11_longest_0 rfl ?_
  refine z_istore_n (M := mX11_longest) (lv2 := [(1, .int (-1 : Int32)), (0, .ref 0)]) dX11_longest_1 (Nat.le_of_ble_eq_true rfl) rfl ?_
  refine z_iconst (M := mX11_longest) (v := 0) dX11_longest_2 rfl ?_
  refine z_istore_n (M := mX11_longest) (lv2 := [(2, .int (0 : Int32)), (1, .int (-1 : Int32)), (0, .ref 0)]) dX11_longest_3 (Nat.le_of_ble_eq_true rfl) rfl ?_
  refine z_iconst (M := mX11_longest) (v := 0) dX11_longest_4 rfl ?_
  refine z_istore_n (M := mX11_longest) (lv2 := [(3, .int (0 : Int32)), (2, .int (0 : Int32)), (1, .int (-1 : Int32)), (0, .ref 0)]) dX11_longest_5 (Nat.le_of_ble_eq_true rfl) rfl ?_
  refine z_lv (lv2 := [(0, .ref 0), (1, .int (-1 : Int32)), (2, .int (0 : Int32)), (3, .int (0 : Int32))]) [3, 2, 1, 0] rfl ?_
  exact t_Fm_longest_6 hd0 FU (-1 : Int32) (0 : Int32) (0 : Int32) _ h
theorem ct_Fm_longest {g : GG} {d : Nat} {ν : Nm} {r : Int32} (hd0 : 1 ≤ d)  (h : Fm_longest ν = some r) : Ct g d mX11_longest [.ref 0] (zem ν) (some (.int r), zem ν) := y_entry in_X11_longest (Nat.le_of_ble_eq_true rfl) rfl (t_Fm_longest hd0 r h)
-- FuseMinutes.burning()I
theorem dX11_burning_0 : decode cX11_burning 0 = .ok (.iconst 0, 1) := by decide +kernel
theorem dX11_burning_1 : decode cX11_burning 1 = .ok (.istore_n 1, 1) := by decide +kernel
theorem dX11_burning_2 : decode cX11_burning 2 = .ok (.iconst 0, 1) := by decide +kernel
theorem dX11_burning_3 : decode cX11_burning 3 = .ok (.istore_n 2, 1) := by decide +kernel
theorem dX11_burning_4 : decode cX11_burning 4 = .ok (.iload_n 2, 1) := by decide +kernel
theorem dX11_burning_5 : decode cX11_burning 5 = .ok (.aload_n 0, 1) := by decide +kernel
theorem dX11_burning_6 : decode cX11_burning 6 = .ok (.getfield 12, 3) := by decide +kernel
theorem dX11_burning_9 : decode cX11_burning 9 = .ok (.getfield 62, 3) := by decide +kernel
theorem dX11_burning_12 : decode cX11_burning 12 = .ok (.getfield 66, 3) := by decide +kernel
theorem dX11_burning_15 : decode cX11_burning 15 = .ok (.if_icmp .ge 35, 3) := by decide +kernel
theorem dX11_burning_18 : decode cX11_burning 18 = .ok (.iload_n 2, 1) := by decide +kernel
theorem dX11_burning_19 : decode cX11_burning 19 = .ok (.iconst 4, 1) := by decide +kernel
theorem dX11_burning_20 : decode cX11_burning 20 = .ok (.if_icmp .ge 30, 3) := by decide +kernel
theorem dX11_burning_23 : decode cX11_burning 23 = .ok (.aload_n 0, 1) := by decide +kernel
theorem dX11_burning_24 : decode cX11_burning 24 = .ok (.getfield 12, 3) := by decide +kernel
theorem dX11_burning_27 : decode cX11_burning 27 = .ok (.getfield 62, 3) := by decide +kernel
theorem dX11_burning_30 : decode cX11_burning 30 = .ok (.getfield 196, 3) := by decide +kernel
theorem dX11_burning_33 : decode cX11_burning 33 = .ok (.iload_n 2, 1) := by decide +kernel
theorem dX11_burning_34 : decode cX11_burning 34 = .ok (.iaload, 1) := by decide +kernel
theorem dX11_burning_35 : decode cX11_burning 35 = .ok (.ifCond .eq 9, 3) := by decide +kernel
theorem dX11_burning_38 : decode cX11_burning 38 = .ok (.iload_n 1, 1) := by decide +kernel
theorem dX11_burning_39 : decode cX11_burning 39 = .ok (.iconst 1, 1) := by decide +kernel
theorem dX11_burning_40 : decode cX11_burning 40 = .ok (.iload_n 2, 1) := by decide +kernel
theorem dX11_burning_41 : decode cX11_burning 41 = .ok (.ishl, 1) := by decide +kernel
theorem dX11_burning_42 : decode cX11_burning 42 = .ok (.ior, 1) := by decide +kernel
theorem dX11_burning_43 : decode cX11_burning 43 = .ok (.istore_n 1, 1) := by decide +kernel
theorem dX11_burning_44 : decode cX11_burning 44 = .ok (.iinc 2 1, 3) := by decide +kernel
theorem dX11_burning_47 : decode cX11_burning 47 = .ok (.goto (-43), 3) := by decide +kernel
theorem dX11_burning_50 : decode cX11_burning 50 = .ok (.iload_n 1, 1) := by decide +kernel
theorem dX11_burning_51 : decode cX11_burning 51 = .ok (.ireturn, 1) := by decide +kernel
def Fm_burning_44 (ν : Nm) (k4 : Int32 → Int32 → Option Int32) (x1 : Int32) (x2 : Int32) : Option Int32 :=
  k4 x1 (x2 + (1 : Int32))
set_option maxRecDepth 100000 in
set_option maxHeartbeats 4000000 in
theorem t_Fm_burning_44 {g : GG} {d : Nat} {ν : Nm} (hd0 : 1 ≤ d) {k4 : Int32 → Int32 → Option Int32} (hk4 : ∀ (x1 : Int32) (x2 : Int32) (r : Int32), k4 x1 x2 = some r → Z g d (0, 0) mX11_burning 333 0 0 4 [(0, .ref 0), (1, .int x1), (2, .int x2)] [] (zem ν) (zF g (some (.int r), zem ν))) : ∀ (x1 : Int32) (x2 : Int32) (r : Int32), Fm_burning_44 ν k4 x1 x2 = some r → Z g d (0, 0) mX11_burning 333 0 0 44 [(0, .ref 0), (1, .int x1), (2, .int x2)] [] (zem ν) (zF g (some (.int r), zem ν)) := by
  intro x1 x2 r h
  unfold Fm_burning_44 at h
  refine z_iinc (M := mX11_burning) (v := (x2 + (1 : Int32))) (lv2 := [(2, .int (x2 + (1 : Int32))), (0, .ref 0), (1, .int x1)]) dX11_burning_44 2 rfl rfl (Nat.le_of_ble_eq_true rfl) rfl ?_
  refine z_goto 4 dX11_burning_47 rfl ?_
  refine z_lv (lv2 := [(0, .ref 0), (1, .int x1), (2, .int (x2 + (1 : Int32)))]) [1, 2, 0] rfl ?_
  exact hk4 x1 (x2 + (1 : Int32)) _ h
def Fm_burning_4 (ν : Nm) : Nat → Int32 → Int32 → Option Int32
  | 0, _, _ => none
  | f + 1, x1, x2 =>
    (if (gi ν 2 0) ≤ x2 then
      some x1
    else
      (if (4 : Int32) ≤ x2 then
        some x1
      else
        if inb x2 4 then
        (if (gi ν 4 x2.toNatClampNeg) = 0 then
          Fm_burning_44 ν (Fm_burning_4 ν f) x1 x2
        else
          Fm_burning_44 ν (Fm_burning_4 ν f) (x1 ||| ((1 : Int32) <<< (x2 &&& 31))) x2)
        else none))
set_option maxRecDepth 100000 in
set_option maxHeartbeats 4000000 in
theorem t_Fm_burning_4 {g : GG} {d : Nat} {ν : Nm} (hd0 : 1 ≤ d) : ∀ (f : Nat), ∀ (x1 : Int32) (x2 : Int32) (r : Int32), Fm_burning_4 ν f x1 x2 = some r → Z g d (0, 0) mX11_burning 333 0 0 4 [(0, .ref 0), (1, .int x1), (2, .int x2)] [] (zem ν) (zF g (some (.int r), zem ν)) := by
  intro f
  induction f with
  | zero =>
    intro x1 x2 r h
    cases h
  | succ f ih =>
    intro x1 x2 r h
    rw [Fm_burning_4] at h
    refine z_iload_n dX11_burning_4 2 rfl ?_
    refine z_aload_n dX11_burning_5 0 rfl ?_
    refine y_getR (M := mX11_burning) (r := 1) dX11_burning_6 zk_0 flRX11_12 fr_9_0.1 (fr_9_0.2 _) ?_
    refine y_getR (M := mX11_burning) (r := 2) dX11_burning_9 zk_1 flRX11_62 fr_5_0.1 (fr_5_0.2 _) ?_
    refine y_getI dX11_burning_12 zk_2 flRX11_66 ?_
    refine z_icmp_ge 50 dX11_burning_15 rfl (fun hc1 => ?_) (fun hc1 => ?_)
    · replace h := oT hc1 h
      refine z_iload_n dX11_burning_50 1 rfl ?_
      cases h
      exact z_iret dX11_burning_51 rfl
    · replace h := oF hc1 h
      refine z_iload_n dX11_burning_18 2 rfl ?_
      refine z_iconst (M := mX11_burning) (v := 4) dX11_burning_19 rfl ?_
      refine z_icmp_ge 50 dX11_burning_20 rfl (fun hc2 => ?_) (fun hc2 => ?_)
      · replace h := oT hc2 h
        refine z_iload_n dX11_burning_50 1 rfl ?_
        cases h
        exact z_iret dX11_burning_51 rfl
      · replace h := oF hc2 h
        refine z_aload_n dX11_burning_23 0 rfl ?_
        refine y_getR (M := mX11_burning) (r := 1) dX11_burning_24 zk_0 flRX11_12 fr_9_0.1 (fr_9_0.2 _) ?_
        refine y_getR (M := mX11_burning) (r := 2) dX11_burning_27 zk_1 flRX11_62 fr_5_0.1 (fr_5_0.2 _) ?_
        refine y_getR (M := mX11_burning) (r := 4) dX11_burning_30 zk_2 flRX11_196 fr_1_5.1 (fr_1_5.2 _) ?_
        refine z_iload_n dX11_burning_33 2 rfl ?_
        obtain ⟨hi3, h⟩ := oif h
        refine y_iald (M := mX11_burning) (jj := x2.toNatClampNeg) dX11_burning_34 zk_4 hi3 rfl ?_
        refine z_if_eq 44 dX11_burning_35 rfl (fun hc4 => ?_) (fun hc4 => ?_)
        · replace h := oT hc4 h
          exact t_Fm_burning_44 hd0 ih x1 x2 _ h
        · replace h := oF hc4 h
          refine z_iload_n dX11_burning_38 1 rfl ?_
          refine z_iconst (M := mX11_burning) (v := 1) dX11_burning_39 rfl ?_
          refine z_iload_n dX11_burning_40 2 rfl ?_
          refine z_ishl dX11_burning_41 ?_
          refine z_ior dX11_burning_42 ?_
          refine z_istore_n (M := mX11_burning) (lv2 := [(1, .int (x1 ||| ((1 : Int32) <<< (x2 &&& 31)))), (0, .ref 0), (2, .int x2)]) dX11_burning_43 (Nat.le_of_ble_eq_true rfl) rfl ?_
          refine z_lv (lv2 := [(0, .ref 0), (1, .int (x1 ||| ((1 : Int32) <<< (x2 &&& 31)))), (2, .int x2)]) [1, 0, 2] rfl ?_
          exact t_Fm_burning_44 hd0 ih (x1 ||| ((1 : Int32) <<< (x2 &&& 31))) x2 _ h
def Fm_burning (ν : Nm) : Option Int32 :=
  Fm_burning_4 ν FU (0 : Int32) (0 : Int32)
set_option maxRecDepth 100000 in
set_option maxHeartbeats 4000000 in
theorem t_Fm_burning {g : GG} {d : Nat} {ν : Nm} (hd0 : 1 ≤ d) : ∀ (r : Int32), Fm_burning ν = some r → Z g d (0, 0) mX11_burning 333 0 0 0 [(0, .ref 0)] [] (zem ν) (zF g (some (.int r), zem ν)) := by
  intro r h
  unfold Fm_burning at h
  refine z_iconst (M := mX11_burning) (v := 0) dX11_burning_0 rfl ?_
  refine z_istore_n (M := mX11_burning) (lv2 := [(1, .int (0 : Int32)), (0, .ref 0)]) dX11_burning_1 (Nat.le_of_ble_eq_true rfl) rfl ?_
  refine z_iconst (M := mX11_burning) (v := 0) dX11_burning_2 rfl ?_
  refine z_istore_n (M := mX11_burning) (lv2 := [(2, .int (0 : Int32)), (1, .int (0 : Int32)), (0, .ref 0)]) dX11_burning_3 (Nat.le_of_ble_eq_true rfl) rfl ?_
  refine z_lv (lv2 := [(0, .ref 0), (1, .int (0 : Int32)), (2, .int (0 : Int32))]) [2, 1, 0] rfl ?_
  exact t_Fm_burning_4 hd0 FU (0 : Int32) (0 : Int32) _ h
theorem ct_Fm_burning {g : GG} {d : Nat} {ν : Nm} {r : Int32} (hd0 : 1 ≤ d)  (h : Fm_burning ν = some r) : Ct g d mX11_burning [.ref 0] (zem ν) (some (.int r), zem ν) := y_entry in_X11_burning (Nat.le_of_ble_eq_true rfl) rfl (t_Fm_burning hd0 r h)
-- FuseMinutes.dead()I
theorem dX11_dead_0 : decode cX11_dead 0 = .ok (.iconst 0, 1) := by decide +kernel
theorem dX11_dead_1 : decode cX11_dead 1 = .ok (.istore_n 1, 1) := by decide +kernel
theorem dX11_dead_2 : decode cX11_dead 2 = .ok (.iconst 0, 1) := by decide +kernel
theorem dX11_dead_3 : decode cX11_dead 3 = .ok (.istore_n 2, 1) := by decide +kernel
theorem dX11_dead_4 : decode cX11_dead 4 = .ok (.iload_n 2, 1) := by decide +kernel
theorem dX11_dead_5 : decode cX11_dead 5 = .ok (.aload_n 0, 1) := by decide +kernel
theorem dX11_dead_6 : decode cX11_dead 6 = .ok (.getfield 12, 3) := by decide +kernel
theorem dX11_dead_9 : decode cX11_dead 9 = .ok (.getfield 62, 3) := by decide +kernel
theorem dX11_dead_12 : decode cX11_dead 12 = .ok (.getfield 66, 3) := by decide +kernel
theorem dX11_dead_15 : decode cX11_dead 15 = .ok (.if_icmp .ge 35, 3) := by decide +kernel
theorem dX11_dead_18 : decode cX11_dead 18 = .ok (.iload_n 2, 1) := by decide +kernel
theorem dX11_dead_19 : decode cX11_dead 19 = .ok (.iconst 4, 1) := by decide +kernel
theorem dX11_dead_20 : decode cX11_dead 20 = .ok (.if_icmp .ge 30, 3) := by decide +kernel
theorem dX11_dead_23 : decode cX11_dead 23 = .ok (.aload_n 0, 1) := by decide +kernel
theorem dX11_dead_24 : decode cX11_dead 24 = .ok (.getfield 12, 3) := by decide +kernel
theorem dX11_dead_27 : decode cX11_dead 27 = .ok (.getfield 62, 3) := by decide +kernel
theorem dX11_dead_30 : decode cX11_dead 30 = .ok (.getfield 193, 3) := by decide +kernel
theorem dX11_dead_33 : decode cX11_dead 33 = .ok (.iload_n 2, 1) := by decide +kernel
theorem dX11_dead_34 : decode cX11_dead 34 = .ok (.iaload, 1) := by decide +kernel
theorem dX11_dead_35 : decode cX11_dead 35 = .ok (.ifCond .ne 9, 3) := by decide +kernel
theorem dX11_dead_38 : decode cX11_dead 38 = .ok (.iload_n 1, 1) := by decide +kernel
theorem dX11_dead_39 : decode cX11_dead 39 = .ok (.iconst 1, 1) := by decide +kernel
theorem dX11_dead_40 : decode cX11_dead 40 = .ok (.iload_n 2, 1) := by decide +kernel
theorem dX11_dead_41 : decode cX11_dead 41 = .ok (.ishl, 1) := by decide +kernel
theorem dX11_dead_42 : decode cX11_dead 42 = .ok (.ior, 1) := by decide +kernel
theorem dX11_dead_43 : decode cX11_dead 43 = .ok (.istore_n 1, 1) := by decide +kernel
theorem dX11_dead_44 : decode cX11_dead 44 = .ok (.iinc 2 1, 3) := by decide +kernel
theorem dX11_dead_47 : decode cX11_dead 47 = .ok (.goto (-43), 3) := by decide +kernel
theorem dX11_dead_50 : decode cX11_dead 50 = .ok (.iload_n 1, 1) := by decide +kernel
theorem dX11_dead_51 : decode cX11_dead 51 = .ok (.ireturn, 1) := by decide +kernel
def Fm_dead_44 (ν : Nm) (k4 : Int32 → Int32 → Option Int32) (x1 : Int32) (x2 : Int32) : Option Int32 :=
  k4 x1 (x2 + (1 : Int32))
set_option maxRecDepth 100000 in
set_option maxHeartbeats 4000000 in
theorem t_Fm_dead_44 {g : GG} {d : Nat} {ν : Nm} (hd0 : 1 ≤ d) {k4 : Int32 → Int32 → Option Int32} (hk4 : ∀ (x1 : Int32) (x2 : Int32) (r : Int32), k4 x1 x2 = some r → Z g d (0, 0) mX11_dead 333 0 0 4 [(0, .ref 0), (1, .int x1), (2, .int x2)] [] (zem ν) (zF g (some (.int r), zem ν))) : ∀ (x1 : Int32) (x2 : Int32) (r : Int32), Fm_dead_44 ν k4 x1 x2 = some r → Z g d (0, 0) mX11_dead 333 0 0 44 [(0, .ref 0), (1, .int x1), (2, .int x2)] [] (zem ν) (zF g (some (.int r), zem ν)) := by
  intro x1 x2 r h
  unfold Fm_dead_44 at h
  refine z_iinc (M := mX11_dead) (v := (x2 + (1 : Int32))) (lv2 := [(2, .int (x2 + (1 : Int32))), (0, .ref 0), (1, .int x1)]) dX11_dead_44 2 rfl rfl (Nat.le_of_ble_eq_true rfl) rfl ?_
  refine z_goto 4 dX11_dead_47 rfl ?_
  refine z_lv (lv2 := [(0, .ref 0), (1, .int x1), (2, .int (x2 + (1 : Int32)))]) [1, 2, 0] rfl ?_
  exact hk4 x1 (x2 + (1 : Int32)) _ h
def Fm_dead_4 (ν : Nm) : Nat → Int32 → Int32 → Option Int32
  | 0, _, _ => none
  | f + 1, x1, x2 =>
    (if (gi ν 2 0) ≤ x2 then
      some x1
    else
      (if (4 : Int32) ≤ x2 then
        some x1
      else
        if inb x2 4 then
        (if ¬ (gi ν 3 x2.toNatClampNeg) = 0 then
          Fm_dead_44 ν (Fm_dead_4 ν f) x1 x2
        else
          Fm_dead_44 ν (Fm_dead_4 ν f) (x1 ||| ((1 : Int32) <<< (x2 &&& 31))) x2)
        else none))
set_option maxRecDepth 100000 in
set_option maxHeartbeats 4000000 in
theorem t_Fm_dead_4 {g : GG} {d : Nat} {ν : Nm} (hd0 : 1 ≤ d) : ∀ (f : Nat), ∀ (x1 : Int32) (x2 : Int32) (r : Int32), Fm_dead_4 ν f x1 x2 = some r → Z g d (0, 0) mX11_dead 333 0 0 4 [(0, .ref 0), (1, .int x1), (2, .int x2)] [] (zem ν) (zF g (some (.int r), zem ν)) := by
  intro f
  induction f with
  | zero =>
    intro x1 x2 r h
    cases h
  | succ f ih =>
    intro x1 x2 r h
    rw [Fm_dead_4] at h
    refine z_iload_n dX11_dead_4 2 rfl ?_
    refine z_aload_n dX11_dead_5 0 rfl ?_
    refine y_getR (M := mX11_dead) (r := 1) dX11_dead_6 zk_0 flRX11_12 fr_9_0.1 (fr_9_0.2 _) ?_
    refine y_getR (M := mX11_dead) (r := 2) dX11_dead_9 zk_1 flRX11_62 fr_5_0.1 (fr_5_0.2 _) ?_
    refine y_getI dX11_dead_12 zk_2 flRX11_66 ?_
    refine z_icmp_ge 50 dX11_dead_15 rfl (fun hc1 => ?_) (fun hc1 => ?_)
    · replace h := oT hc1 h
      refine z_iload_n dX11_dead_50 1 rfl ?_
      cases h
      exact z_iret dX11_dead_51 rfl
    · replace h := oF hc1 h
      refine z_iload_n dX11_dead_18 2 rfl ?_
      refine z_iconst (M := mX11_dead) (v := 4) dX11_dead_19 rfl ?_
      refine z_icmp_ge 50 dX11_dead_20 rfl (fun hc2 => ?_) (fun hc2 => ?_)
      · replace h := oT hc2 h
        refine z_iload_n dX11_dead_50 1 rfl ?_
        cases h
        exact z_iret dX11_dead_51 rfl
      · replace h := oF hc2 h
        refine z_aload_n dX11_dead_23 0 rfl ?_
        refine y_getR (M := mX11_dead) (r := 1) dX11_dead_24 zk_0 flRX11_12 fr_9_0.1 (fr_9_0.2 _) ?_
        refine y_getR (M := mX11_dead) (r := 2) dX11_dead_27 zk_1 flRX11_62 fr_5_0.1 (fr_5_0.2 _) ?_
        refine y_getR (M := mX11_dead) (r := 3) dX11_dead_30 zk_2 flRX11_193 fr_1_4.1 (fr_1_4.2 _) ?_
        refine z_iload_n dX11_dead_33 2 rfl ?_
        obtain ⟨hi3, h⟩ := oif h
        refine y_iald (M := mX11_dead) (jj := x2.toNatClampNeg) dX11_dead_34 zk_3 hi3 rfl ?_
        refine z_if_ne 44 dX11_dead_35 rfl (fun hc4 => ?_) (fun hc4 => ?_)
        · replace h := oT hc4 h
          exact t_Fm_dead_44 hd0 ih x1 x2 _ h
        · replace h := oFn hc4 h
          refine z_iload_n dX11_dead_38 1 rfl ?_
          refine z_iconst (M := mX11_dead) (v := 1) dX11_dead_39 rfl ?_
          refine z_iload_n dX11_dead_40 2 rfl ?_
          refine z_ishl dX11_dead_41 ?_
          refine z_ior dX11_dead_42 ?_
          refine z_istore_n (M := mX11_dead) (lv2 := [(1, .int (x1 ||| ((1 : Int32) <<< (x2 &&& 31)))), (0, .ref 0), (2, .int x2)]) dX11_dead_43 (Nat.le_of_ble_eq_true rfl) rfl ?_
          refine z_lv (lv2 := [(0, .ref 0), (1, .int (x1 ||| ((1 : Int32) <<< (x2 &&& 31)))), (2, .int x2)]) [1, 0, 2] rfl ?_
          exact t_Fm_dead_44 hd0 ih (x1 ||| ((1 : Int32) <<< (x2 &&& 31))) x2 _ h
def Fm_dead (ν : Nm) : Option Int32 :=
  Fm_dead_4 ν FU (0 : Int32) (0 : Int32)
set_option maxRecDepth 100000 in
set_option maxHeartbeats 4000000 in
theorem t_Fm_dead {g : GG} {d : Nat} {ν : Nm} (hd0 : 1 ≤ d) : ∀ (r : Int32), Fm_dead ν = some r → Z g d (0, 0) mX11_dead 333 0 0 0 [(0, .ref 0)] [] (zem ν) (zF g (some (.int r), zem ν)) := by
  intro r h
  unfold Fm_dead at h
  refine z_iconst (M := mX11_dead) (v := 0) dX11_dead_0 rfl ?_
  refine z_istore_n (M := mX11_dead) (lv2 := [(1, .int (0 : Int32)), (0, .ref 0)]) dX11_dead_1 (Nat.le_of_ble_eq_true rfl) rfl ?_
  refine z_iconst (M := mX11_dead) (v := 0) dX11_dead_2 rfl ?_
  refine z_istore_n (M := mX11_dead) (lv2 := [(2, .int (0 : Int32)), (1, .int (0 : Int32)), (0, .ref 0)]) dX11_dead_3 (Nat.le_of_ble_eq_true rfl) rfl ?_
  refine z_lv (lv2 := [(0, .ref 0), (1, .int (0 : Int32)), (2, .int (0 : Int32))]) [2, 1, 0] rfl ?_
  exact t_Fm_dead_4 hd0 FU (0 : Int32) (0 : Int32) _ h
theorem ct_Fm_dead {g : GG} {d : Nat} {ν : Nm} {r : Int32} (hd0 : 1 ≤ d)  (h : Fm_dead ν = some r) : Ct g d mX11_dead [.ref 0] (zem ν) (some (.int r), zem ν) := y_entry in_X11_dead (Nat.le_of_ble_eq_true rfl) rfl (t_Fm_dead hd0 r h)
-- FuseMinutes.ledger(I)I
theorem dX11_ledger_0 : decode cX11_ledger 0 = .ok (.iload_n 1, 1) := by decide +kernel
theorem dX11_ledger_1 : decode cX11_ledger 1 = .ok (.iconst 0, 1) := by decide +kernel
theorem dX11_ledger_2 : decode cX11_ledger 2 = .ok (.iconst 3, 1) := by decide +kernel
theorem dX11_ledger_3 : decode cX11_ledger 3 = .ok (.invokestatic 72, 3) := by decide +kernel
theorem dX11_ledger_6 : decode cX11_ledger 6 = .ok (.ifCond .ne 6, 3) := by decide +kernel
theorem dX11_ledger_9 : decode cX11_ledger 9 = .ok (.bipush (-2), 2) := by decide +kernel
theorem dX11_ledger_11 : decode cX11_ledger 11 = .ok (.ireturn, 1) := by decide +kernel
theorem dX11_ledger_12 : decode cX11_ledger 12 = .ok (.iconst 0, 1) := by decide +kernel
theorem dX11_ledger_13 : decode cX11_ledger 13 = .ok (.istore_n 2, 1) := by decide +kernel
theorem dX11_ledger_14 : decode cX11_ledger 14 = .ok (.iconst 0, 1) := by decide +kernel
theorem dX11_ledger_15 : decode cX11_ledger 15 = .ok (.istore_n 3, 1) := by decide +kernel
theorem dX11_ledger_16 : decode cX11_ledger 16 = .ok (.iload_n 3, 1) := by decide +kernel
theorem dX11_ledger_17 : decode cX11_ledger 17 = .ok (.aload_n 0, 1) := by decide +kernel
theorem dX11_ledger_18 : decode cX11_ledger 18 = .ok (.getfield 12, 3) := by decide +kernel
theorem dX11_ledger_21 : decode cX11_ledger 21 = .ok (.getfield 62, 3) := by decide +kernel
theorem dX11_ledger_24 : decode cX11_ledger 24 = .ok (.getfield 214, 3) := by decide +kernel
theorem dX11_ledger_27 : decode cX11_ledger 27 = .ok (.if_icmp .ge 38, 3) := by decide +kernel
theorem dX11_ledger_30 : decode cX11_ledger 30 = .ok (.iload_n 3, 1) := by decide +kernel
theorem dX11_ledger_31 : decode cX11_ledger 31 = .ok (.bipush 30, 2) := by decide +kernel
theorem dX11_ledger_33 : decode cX11_ledger 33 = .ok (.if_icmp .ge 32, 3) := by decide +kernel
theorem dX11_ledger_36 : decode cX11_ledger 36 = .ok (.aload_n 0, 1) := by decide +kernel
theorem dX11_ledger_37 : decode cX11_ledger 37 = .ok (.getfield 12, 3) := by decide +kernel
theorem dX11_ledger_40 : decode cX11_ledger 40 = .ok (.getfield 62, 3) := by decide +kernel
theorem dX11_ledger_43 : decode cX11_ledger 43 = .ok (.getfield 217, 3) := by decide +kernel
theorem dX11_ledger_46 : decode cX11_ledger 46 = .ok (.iload_n 3, 1) := by decide +kernel
theorem dX11_ledger_47 : decode cX11_ledger 47 = .ok (.iaload, 1) := by decide +kernel
theorem dX11_ledger_48 : decode cX11_ledger 48 = .ok (.iconst 2, 1) := by decide +kernel
theorem dX11_ledger_49 : decode cX11_ledger 49 = .ok (.invokestatic 220, 3) := by decide +kernel
theorem dX11_ledger_52 : decode cX11_ledger 52 = .ok (.iload_n 1, 1) := by decide +kernel
theorem dX11_ledger_53 : decode cX11_ledger 53 = .ok (.if_icmp .ne 6, 3) := by decide +kernel
theorem dX11_ledger_56 : decode cX11_ledger 56 = .ok (.iinc 2 1, 3) := by decide +kernel
theorem dX11_ledger_59 : decode cX11_ledger 59 = .ok (.iinc 3 1, 3) := by decide +kernel
theorem dX11_ledger_62 : decode cX11_ledger 62 = .ok (.goto (-46), 3) := by decide +kernel
theorem dX11_ledger_65 : decode cX11_ledger 65 = .ok (.iload_n 2, 1) := by decide +kernel
theorem dX11_ledger_66 : decode cX11_ledger 66 = .ok (.ireturn, 1) := by decide +kernel
def Fm_ledger_59 (ν : Nm) (k16 : Int32 → Int32 → Int32 → Option Int32) (x1 : Int32) (x2 : Int32) (x3 : Int32) : Option Int32 :=
  k16 x1 x2 (x3 + (1 : Int32))
set_option maxRecDepth 100000 in
set_option maxHeartbeats 4000000 in
theorem t_Fm_ledger_59 {g : GG} {d : Nat} {ν : Nm} (hd0 : 2 ≤ d) {k16 : Int32 → Int32 → Int32 → Option Int32} (hk16 : ∀ (x1 : Int32) (x2 : Int32) (x3 : Int32) (r : Int32), k16 x1 x2 x3 = some r → Z g d (0, 0) mX11_ledger 333 0 0 16 [(0, .ref 0), (1, .int x1), (2, .int x2), (3, .int x3)] [] (zem ν) (zF g (some (.int r), zem ν))) : ∀ (x1 : Int32) (x2 : Int32) (x3 : Int32) (r : Int32), Fm_ledger_59 ν k16 x1 x2 x3 = some r → Z g d (0, 0) mX11_ledger 333 0 0 59 [(0, .ref 0), (1, .int x1), (2, .int x2), (3, .int x3)] [] (zem ν) (zF g (some (.int r), zem ν)) := by
  intro x1 x2 x3 r h
  unfold Fm_ledger_59 at h
  refine z_iinc (M := mX11_ledger) (v := (x3 + (1 : Int32))) (lv2 := [(3, .int (x3 + (1 : Int32))), (0, .ref 0), (1, .int x1), (2, .int x2)]) dX11_ledger_59 3 rfl rfl (Nat.le_of_ble_eq_true rfl) rfl ?_
  refine z_goto 16 dX11_ledger_62 rfl ?_
  refine z_lv (lv2 := [(0, .ref 0), (1, .int x1), (2, .int x2), (3, .int (x3 + (1 : Int32)))]) [1, 2, 3, 0] rfl ?_
  exact hk16 x1 x2 (x3 + (1 : Int32)) _ h
def Fm_ledger_16 (ν : Nm) : Nat → Int32 → Int32 → Int32 → Option Int32
  | 0, _, _, _ => none
  | f + 1, x1, x2, x3 =>
    (if (gi ν 2 7) ≤ x3 then
      some x2
    else
      (if (30 : Int32) ≤ x3 then
        some x2
      else
        if inb x3 30 then
        (Fm_partOfLine (gi ν 5 x3.toNatClampNeg) (2 : Int32)).bind fun v4 =>
        (if ¬ v4 = x1 then
          Fm_ledger_59 ν (Fm_ledger_16 ν f) x1 x2 x3
        else
          Fm_ledger_59 ν (Fm_ledger_16 ν f) x1 (x2 + (1 : Int32)) x3)
        else none))
set_option maxRecDepth 100000 in
set_option maxHeartbeats 4000000 in
theorem t_Fm_ledger_16 {g : GG} {d : Nat} {ν : Nm} (hd0 : 2 ≤ d) : ∀ (f : Nat), ∀ (x1 : Int32) (x2 : Int32) (x3 : Int32) (r : Int32), Fm_ledger_16 ν f x1 x2 x3 = some r → Z g d (0, 0) mX11_ledger 333 0 0 16 [(0, .ref 0), (1, .int x1), (2, .int x2), (3, .int x3)] [] (zem ν) (zF g (some (.int r), zem ν)) := by
  intro f
  induction f with
  | zero =>
    intro x1 x2 x3 r h
    cases h
  | succ f ih =>
    intro x1 x2 x3 r h
    rw [Fm_ledger_16] at h
    refine z_iload_n dX11_ledger_16 3 rfl ?_
    refine z_aload_n dX11_ledger_17 0 rfl ?_
    refine y_getR (M := mX11_ledger) (r := 1) dX11_ledger_18 zk_0 flRX11_12 fr_9_0.1 (fr_9_0.2 _) ?_
    refine y_getR (M := mX11_ledger) (r := 2) dX11_ledger_21 zk_1 flRX11_62 fr_5_0.1 (fr_5_0.2 _) ?_
    refine y_getI dX11_ledger_24 zk_2 flRX11_214 ?_
    refine z_icmp_ge 65 dX11_ledger_27 rfl (fun hc1 => ?_) (fun hc1 => ?_)
    · replace h := oT hc1 h
      refine z_iload_n dX11_ledger_65 2 rfl ?_
      cases h
      exact z_iret dX11_ledger_66 rfl
    · replace h := oF hc1 h
      refine z_iload_n dX11_ledger_30 3 rfl ?_
      refine z_bipush (M := mX11_ledger) (v := 30) dX11_ledger_31 rfl ?_
      refine z_icmp_ge 65 dX11_ledger_33 rfl (fun hc2 => ?_) (fun hc2 => ?_)
      · replace h := oT hc2 h
        refine z_iload_n dX11_ledger_65 2 rfl ?_
        cases h
        exact z_iret dX11_ledger_66 rfl
      · replace h := oF hc2 h
        refine z_aload_n dX11_ledger_36 0 rfl ?_
        refine y_getR (M := mX11_ledger) (r := 1) dX11_ledger_37 zk_0 flRX11_12 fr_9_0.1 (fr_9_0.2 _) ?_
        refine y_getR (M := mX11_ledger) (r := 2) dX11_ledger_40 zk_1 flRX11_62 fr_5_0.1 (fr_5_0.2 _) ?_
        refine y_getR (M := mX11_ledger) (r := 5) dX11_ledger_43 zk_2 flRX11_217 fr_1_6.1 (fr_1_6.2 _) ?_
        refine z_iload_n dX11_ledger_46 3 rfl ?_
        obtain ⟨hi3, h⟩ := oif h
        refine y_iald (M := mX11_ledger) (jj := x3.toNatClampNeg) dX11_ledger_47 zk_5 hi3 rfl ?_
        refine z_iconst (M := mX11_ledger) (v := 2) dX11_ledger_48 rfl ?_
        obtain ⟨v4, he4, h⟩ := obind h
        refine y_Si (M := mX11_ledger) (Y := mX11_partOfLine) (d2 := d - 1) (As := [.int (gi ν 5 x3.toNatClampNeg), .int (2 : Int32)]) (st := []) dX11_ledger_49 mlRX11_220 cv_X11_partOfLine (ct_Fm_partOfLine (dle (Nat.le_of_ble_eq_true rfl) hd0) he4) (dps (Nat.le_of_ble_eq_true rfl) hd0) rfl rfl (Nat.le_of_ble_eq_true rfl) ?_
        refine z_iload_n dX11_ledger_52 1 rfl ?_
        refine z_icmp_ne 59 dX11_ledger_53 rfl (fun hc5 => ?_) (fun hc5 => ?_)
        · replace h := oT hc5 h
          exact t_Fm_ledger_59 hd0 ih x1 x2 x3 _ h
        · replace h := oFn hc5 h
          refine z_iinc (M := mX11_ledger) (v := (x2 + (1 : Int32))) (lv2 := [(2, .int (x2 + (1 : Int32))), (0, .ref 0), (1, .int x1), (3, .int x3)]) dX11_ledger_56 2 rfl rfl (Nat.le_of_ble_eq_true rfl) rfl ?_
          refine z_lv (lv2 := [(0, .ref 0), (1, .int x1), (2, .int (x2 + (1 : Int32))), (3, .int x3)]) [1, 2, 0, 3] rfl ?_
          exact t_Fm_ledger_59 hd0 ih x1 (x2 + (1 : Int32)) x3 _ h
def Fm_ledger (ν : Nm) (x1 : Int32) : Option Int32 :=
  (Fm_within x1 (0 : Int32) (3 : Int32)).bind fun v1 =>
  (if ¬ (b2i v1) = 0 then
    Fm_ledger_16 ν FU x1 (0 : Int32) (0 : Int32)
  else
    some (-2 : Int32))
set_option maxRecDepth 100000 in
set_option maxHeartbeats 4000000 in
theorem t_Fm_ledger {g : GG} {d : Nat} {ν : Nm} (hd0 : 2 ≤ d) : ∀ (x1 : Int32) (r : Int32), Fm_ledger ν x1 = some r → Z g d (0, 0) mX11_ledger 333 0 0 0 [(0, .ref 0), (1, .int x1)] [] (zem ν) (zF g (some (.int r), zem ν)) := by
  intro x1 r h
  unfold Fm_ledger at h
  refine z_iload_n dX11_ledger_0 1 rfl ?_
  refine z_iconst (M := mX11_ledger) (v := 0) dX11_ledger_1 rfl ?_
  refine z_iconst (M := mX11_ledger) (v := 3) dX11_ledger_2 rfl ?_
  obtain ⟨v1, he1, h⟩ := obind h
  refine y_Si (M := mX11_ledger) (Y := mX11_within) (d2 := d - 1) (As := [.int x1, .int (0 : Int32), .int (3 : Int32)]) (st := []) dX11_ledger_3 mlRX11_72 cv_X11_within (ct_Fm_within (dle (Nat.le_of_ble_eq_true rfl) hd0) he1) (dps (Nat.le_of_ble_eq_true rfl) hd0) rfl rfl (Nat.le_of_ble_eq_true rfl) ?_
  refine z_if_ne 12 dX11_ledger_6 rfl (fun hc2 => ?_) (fun hc2 => ?_)
  · replace h := oT hc2 h
    refine z_iconst (M := mX11_ledger) (v := 0) dX11_ledger_12 rfl ?_
    refine z_istore_n (M := mX11_ledger) (lv2 := [(2, .int (0 : Int32)), (0, .ref 0), (1, .int x1)]) dX11_ledger_13 (Nat.le_of_ble_eq_true rfl) rfl ?_
    refine z_iconst (M := mX11_ledger) (v := 0) dX11_ledger_14 rfl ?_
    refine z_istore_n (M := mX11_ledger) (lv2 := [(3, .int (0 : Int32)), (2, .int (0 : Int32)), (0, .ref 0), (1, .int x1)]) dX11_ledger_15 (Nat.le_of_ble_eq_true rfl) rfl ?_
    refine z_lv (lv2 := [(0, .ref 0), (1, .int x1), (2, .int (0 : Int32)), (3, .int (0 : Int32))]) [2, 3, 1, 0] rfl ?_
    exact t_Fm_ledger_16 hd0 FU x1 (0 : Int32) (0 : Int32) _ h
  · replace h := oFn hc2 h
    refine z_bipush (M := mX11_ledger) (v := -2) dX11_ledger_9 rfl ?_
    cases h
    exact z_iret dX11_ledger_11 rfl
theorem ct_Fm_ledger {g : GG} {d : Nat} {x1 : Int32} {ν : Nm} {r : Int32} (hd0 : 2 ≤ d)  (h : Fm_ledger ν x1 = some r) : Ct g d mX11_ledger [.ref 0, .int x1] (zem ν) (some (.int r), zem ν) := y_entry in_X11_ledger (Nat.le_of_ble_eq_true rfl) rfl (t_Fm_ledger hd0 x1 r h)
-- FuseMinutes.image()I
theorem dX11_image_0 : decode cX11_image 0 = .ok (.aload_n 0, 1) := by decide +kernel
theorem dX11_image_1 : decode cX11_image 1 = .ok (.getfield 16, 3) := by decide +kernel
theorem dX11_image_4 : decode cX11_image 4 = .ok (.aload_n 0, 1) := by decide +kernel
theorem dX11_image_5 : decode cX11_image 5 = .ok (.getfield 12, 3) := by decide +kernel
theorem dX11_image_8 : decode cX11_image 8 = .ok (.invokevirtual 342, 3) := by decide +kernel
theorem dX11_image_11 : decode cX11_image 11 = .ok (.aload_n 0, 1) := by decide +kernel
theorem dX11_image_12 : decode cX11_image 12 = .ok (.getfield 12, 3) := by decide +kernel
theorem dX11_image_15 : decode cX11_image 15 = .ok (.getfield 62, 3) := by decide +kernel
theorem dX11_image_18 : decode cX11_image 18 = .ok (.getfield 180, 3) := by decide +kernel
theorem dX11_image_21 : decode cX11_image 21 = .ok (.ireturn, 1) := by decide +kernel
def Fm_image (ν : Nm) : Option (Int32 × Nm) :=
  (So_copy 136 1 ν).bind fun v1 =>
  some ((gi v1 2 1), v1)
set_option maxRecDepth 100000 in
set_option maxHeartbeats 4000000 in
theorem t_Fm_image {g : GG} {d : Nat} (hd0 : 4 ≤ d) : ∀ (ν : Nm) (r : (Int32 × Nm)), Fm_image ν = some r → Z g d (0, 0) mX11_image 333 0 0 0 [(0, .ref 0)] [] (zem ν) (zF g (some (.int r.1), zem r.2)) := by
  intro ν r h
  unfold Fm_image at h
  refine z_aload_n dX11_image_0 0 rfl ?_
  refine y_getR (M := mX11_image) (r := 136) dX11_image_1 zk_0 flRX11_16 fr_9_1.1 (fr_9_1.2 _) ?_
  refine z_aload_n dX11_image_4 0 rfl ?_
  refine y_getR (M := mX11_image) (r := 1) dX11_image_5 zk_0 flRX11_12 fr_9_0.1 (fr_9_0.2 _) ?_
  obtain ⟨v1, he1, h⟩ := obind h
  refine y_Vv (M := mX11_image) (Y := mX6_copy) (d2 := d - 1) (As := [.ref 1]) (st := []) dX11_image_8 mlRX11_342 cv_X6_copy zk_136 (ct_So_copy (dle (Nat.le_of_ble_eq_true rfl) hd0) zk_136 zk_1 he1) (dps (Nat.le_of_ble_eq_true rfl) hd0) rfl rfl (Nat.le_of_ble_eq_true rfl) ?_
  refine z_aload_n dX11_image_11 0 rfl ?_
  refine y_getR (M := mX11_image) (r := 1) dX11_image_12 zk_0 flRX11_12 fr_9_0.1 (fr_9_0.2 _) ?_
  refine y_getR (M := mX11_image) (r := 2) dX11_image_15 zk_1 flRX11_62 fr_5_0.1 (fr_5_0.2 _) ?_
  refine y_getI dX11_image_18 zk_2 flRX11_180 ?_
  cases h
  exact z_iret dX11_image_21 rfl
theorem ct_Fm_image {g : GG} {d : Nat} {ν : Nm} {r : (Int32 × Nm)} (hd0 : 4 ≤ d)  (h : Fm_image ν = some r) : Ct g d mX11_image [.ref 0] (zem ν) (some (.int r.1), zem r.2) := y_entry in_X11_image (Nat.le_of_ble_eq_true rfl) rfl (t_Fm_image hd0 ν r h)
-- FuseMinutes.back()I
theorem dX11_back_0 : decode cX11_back 0 = .ok (.aload_n 0, 1) := by decide +kernel
theorem dX11_back_1 : decode cX11_back 1 = .ok (.getfield 12, 3) := by decide +kernel
theorem dX11_back_4 : decode cX11_back 4 = .ok (.aload_n 0, 1) := by decide +kernel
theorem dX11_back_5 : decode cX11_back 5 = .ok (.getfield 16, 3) := by decide +kernel
theorem dX11_back_8 : decode cX11_back 8 = .ok (.invokevirtual 342, 3) := by decide +kernel
theorem dX11_back_11 : decode cX11_back 11 = .ok (.aload_n 0, 1) := by decide +kernel
theorem dX11_back_12 : decode cX11_back 12 = .ok (.getfield 12, 3) := by decide +kernel
theorem dX11_back_15 : decode cX11_back 15 = .ok (.getfield 62, 3) := by decide +kernel
theorem dX11_back_18 : decode cX11_back 18 = .ok (.getfield 180, 3) := by decide +kernel
theorem dX11_back_21 : decode cX11_back 21 = .ok (.ireturn, 1) := by decide +kernel
def Fm_back (ν : Nm) : Option (Int32 × Nm) :=
  (So_copy 1 136 ν).bind fun v1 =>
  some ((gi v1 2 1), v1)
set_option maxRecDepth 100000 in
set_option maxHeartbeats 4000000 in
theorem t_Fm_back {g : GG} {d : Nat} (hd0 : 4 ≤ d) : ∀ (ν : Nm) (r : (Int32 × Nm)), Fm_back ν = some r → Z g d (0, 0) mX11_back 333 0 0 0 [(0, .ref 0)] [] (zem ν) (zF g (some (.int r.1), zem r.2)) := by
  intro ν r h
  unfold Fm_back at h
  refine z_aload_n dX11_back_0 0 rfl ?_
  refine y_getR (M := mX11_back) (r := 1) dX11_back_1 zk_0 flRX11_12 fr_9_0.1 (fr_9_0.2 _) ?_
  refine z_aload_n dX11_back_4 0 rfl ?_
  refine y_getR (M := mX11_back) (r := 136) dX11_back_5 zk_0 flRX11_16 fr_9_1.1 (fr_9_1.2 _) ?_
  obtain ⟨v1, he1, h⟩ := obind h
  refine y_Vv (M := mX11_back) (Y := mX6_copy) (d2 := d - 1) (As := [.ref 136]) (st := []) dX11_back_8 mlRX11_342 cv_X6_copy zk_1 (ct_So_copy (dle (Nat.le_of_ble_eq_true rfl) hd0) zk_1 zk_136 he1) (dps (Nat.le_of_ble_eq_true rfl) hd0) rfl rfl (Nat.le_of_ble_eq_true rfl) ?_
  refine z_aload_n dX11_back_11 0 rfl ?_
  refine y_getR (M := mX11_back) (r := 1) dX11_back_12 zk_0 flRX11_12 fr_9_0.1 (fr_9_0.2 _) ?_
  refine y_getR (M := mX11_back) (r := 2) dX11_back_15 zk_1 flRX11_62 fr_5_0.1 (fr_5_0.2 _) ?_
  refine y_getI dX11_back_18 zk_2 flRX11_180 ?_
  cases h
  exact z_iret dX11_back_21 rfl
theorem ct_Fm_back {g : GG} {d : Nat} {ν : Nm} {r : (Int32 × Nm)} (hd0 : 4 ≤ d)  (h : Fm_back ν = some r) : Ct g d mX11_back [.ref 0] (zem ν) (some (.int r.1), zem r.2) := y_entry in_X11_back (Nat.le_of_ble_eq_true rfl) rfl (t_Fm_back hd0 ν r h)
-- FuseMinutes.about(I)I
theorem dX11_about_0 : decode cX11_about 0 = .ok (.iload_n 1, 1) := by decide +kernel
theorem dX11_about_1 : decode cX11_about 1 = .ok (.tableswitch 138 0 8 #[51, 62, 70, 78, 86, 97, 108, 119, 130], 51) := by decide +kernel
theorem dX11_about_52 : decode cX11_about 52 = .ok (.aload_n 0, 1) := by decide +kernel
theorem dX11_about_53 : decode cX11_about 53 = .ok (.getfield 12, 3) := by decide +kernel
theorem dX11_about_56 : decode cX11_about 56 = .ok (.getfield 62, 3) := by decide +kernel
theorem dX11_about_59 : decode cX11_about 59 = .ok (.getfield 66, 3) := by decide +kernel
theorem dX11_about_62 : decode cX11_about 62 = .ok (.ireturn, 1) := by decide +kernel
theorem dX11_about_63 : decode cX11_about 63 = .ok (.aload_n 0, 1) := by decide +kernel
theorem dX11_about_64 : decode cX11_about 64 = .ok (.getfield 12, 3) := by decide +kernel
theorem dX11_about_67 : decode cX11_about 67 = .ok (.getfield 86, 3) := by decide +kernel
theorem dX11_about_70 : decode cX11_about 70 = .ok (.ireturn, 1) := by decide +kernel
theorem dX11_about_71 : decode cX11_about 71 = .ok (.aload_n 0, 1) := by decide +kernel
theorem dX11_about_72 : decode cX11_about 72 = .ok (.getfield 12, 3) := by decide +kernel
theorem dX11_about_75 : decode cX11_about 75 = .ok (.getfield 95, 3) := by decide +kernel
theorem dX11_about_78 : decode cX11_about 78 = .ok (.ireturn, 1) := by decide +kernel
theorem dX11_about_79 : decode cX11_about 79 = .ok (.aload_n 0, 1) := by decide +kernel
theorem dX11_about_80 : decode cX11_about 80 = .ok (.getfield 12, 3) := by decide +kernel
theorem dX11_about_83 : decode cX11_about 83 = .ok (.getfield 111, 3) := by decide +kernel
theorem dX11_about_86 : decode cX11_about 86 = .ok (.ireturn, 1) := by decide +kernel
theorem dX11_about_87 : decode cX11_about 87 = .ok (.aload_n 0, 1) := by decide +kernel
theorem dX11_about_88 : decode cX11_about 88 = .ok (.getfield 12, 3) := by decide +kernel
theorem dX11_about_91 : decode cX11_about 91 = .ok (.getfield 118, 3) := by decide +kernel
theorem dX11_about_94 : decode cX11_about 94 = .ok (.getfield 187, 3) := by decide +kernel
theorem dX11_about_97 : decode cX11_about 97 = .ok (.ireturn, 1) := by decide +kernel
theorem dX11_about_98 : decode cX11_about 98 = .ok (.aload_n 0, 1) := by decide +kernel
theorem dX11_about_99 : decode cX11_about 99 = .ok (.getfield 12, 3) := by decide +kernel
theorem dX11_about_102 : decode cX11_about 102 = .ok (.getfield 272, 3) := by decide +kernel
theorem dX11_about_105 : decode cX11_about 105 = .ok (.getfield 276, 3) := by decide +kernel
theorem dX11_about_108 : decode cX11_about 108 = .ok (.ireturn, 1) := by decide +kernel
theorem dX11_about_109 : decode cX11_about 109 = .ok (.aload_n 0, 1) := by decide +kernel
theorem dX11_about_110 : decode cX11_about 110 = .ok (.getfield 12, 3) := by decide +kernel
theorem dX11_about_113 : decode cX11_about 113 = .ok (.getfield 304, 3) := by decide +kernel
theorem dX11_about_116 : decode cX11_about 116 = .ok (.getfield 276, 3) := by decide +kernel
theorem dX11_about_119 : decode cX11_about 119 = .ok (.ireturn, 1) := by decide +kernel
theorem dX11_about_120 : decode cX11_about 120 = .ok (.aload_n 0, 1) := by decide +kernel
theorem dX11_about_121 : decode cX11_about 121 = .ok (.getfield 12, 3) := by decide +kernel
theorem dX11_about_124 : decode cX11_about 124 = .ok (.getfield 336, 3) := by decide +kernel
theorem dX11_about_127 : decode cX11_about 127 = .ok (.getfield 276, 3) := by decide +kernel
theorem dX11_about_130 : decode cX11_about 130 = .ok (.ireturn, 1) := by decide +kernel
theorem dX11_about_131 : decode cX11_about 131 = .ok (.aload_n 0, 1) := by decide +kernel
theorem dX11_about_132 : decode cX11_about 132 = .ok (.getfield 22, 3) := by decide +kernel
theorem dX11_about_135 : decode cX11_about 135 = .ok (.getfield 89, 3) := by decide +kernel
theorem dX11_about_138 : decode cX11_about 138 = .ok (.ireturn, 1) := by decide +kernel
theorem dX11_about_139 : decode cX11_about 139 = .ok (.bipush (-2), 2) := by decide +kernel
theorem dX11_about_141 : decode cX11_about 141 = .ok (.ireturn, 1) := by decide +kernel
def Fm_about (ν : Nm) (x1 : Int32) : Option Int32 :=
  (if x1 = (0 : Int32) then
    some (gi ν 2 0)
  else
  (if x1 = (1 : Int32) then
    some (gi ν 1 5)
  else
  (if x1 = (2 : Int32) then
    some (gi ν 1 6)
  else
  (if x1 = (3 : Int32) then
    some (gi ν 1 7)
  else
  (if x1 = (4 : Int32) then
    some (gi ν 6 2)
  else
  (if x1 = (5 : Int32) then
    some (gi ν 130 1)
  else
  (if x1 = (6 : Int32) then
    some (gi ν 132 1)
  else
  (if x1 = (7 : Int32) then
    some (gi ν 134 1)
  else
  (if x1 = (8 : Int32) then
    some (gi ν 271 1)
  else
    some (-2 : Int32))))))))))
set_option maxRecDepth 100000 in
set_option maxHeartbeats 4000000 in
theorem t_Fm_about {g : GG} {d : Nat} {ν : Nm} (hd0 : 1 ≤ d) : ∀ (x1 : Int32) (r : Int32), Fm_about ν x1 = some r → Z g d (0, 0) mX11_about 333 0 0 0 [(0, .ref 0), (1, .int x1)] [] (zem ν) (zF g (some (.int r), zem ν)) := by
  intro x1 r h
  unfold Fm_about at h
  refine z_iload_n dX11_about_0 1 rfl ?_
  by_cases hc1 : x1 = (0 : Int32)
  · replace h := oT hc1 h
    refine y_sw (0 : Int32) (0) 52 dX11_about_1 hc1 rfl (by decide) (by decide) rfl rfl ?_
    refine z_aload_n dX11_about_52 0 rfl ?_
    refine y_getR (M := mX11_about) (r := 1) dX11_about_53 zk_0 flRX11_12 fr_9_0.1 (fr_9_0.2 _) ?_
    refine y_getR (M := mX11_about) (r := 2) dX11_about_56 zk_1 flRX11_62 fr_5_0.1 (fr_5_0.2 _) ?_
    refine y_getI dX11_about_59 zk_2 flRX11_66 ?_
    cases h
    exact z_iret dX11_about_62 rfl
  replace h := oF hc1 h
  by_cases hc2 : x1 = (1 : Int32)
  · replace h := oT hc2 h
    refine y_sw (1 : Int32) (1) 63 dX11_about_1 hc2 rfl (by decide) (by decide) rfl rfl ?_
    refine z_aload_n dX11_about_63 0 rfl ?_
    refine y_getR (M := mX11_about) (r := 1) dX11_about_64 zk_0 flRX11_12 fr_9_0.1 (fr_9_0.2 _) ?_
    refine y_getI dX11_about_67 zk_1 flRX11_86 ?_
    cases h
    exact z_iret dX11_about_70 rfl
  replace h := oF hc2 h
  by_cases hc3 : x1 = (2 : Int32)
  · replace h := oT hc3 h
    refine y_sw (2 : Int32) (2) 71 dX11_about_1 hc3 rfl (by decide) (by decide) rfl rfl ?_
    refine z_aload_n dX11_about_71 0 rfl ?_
    refine y_getR (M := mX11_about) (r := 1) dX11_about_72 zk_0 flRX11_12 fr_9_0.1 (fr_9_0.2 _) ?_
    refine y_getI dX11_about_75 zk_1 flRX11_95 ?_
    cases h
    exact z_iret dX11_about_78 rfl
  replace h := oF hc3 h
  by_cases hc4 : x1 = (3 : Int32)
  · replace h := oT hc4 h
    refine y_sw (3 : Int32) (3) 79 dX11_about_1 hc4 rfl (by decide) (by decide) rfl rfl ?_
    refine z_aload_n dX11_about_79 0 rfl ?_
    refine y_getR (M := mX11_about) (r := 1) dX11_about_80 zk_0 flRX11_12 fr_9_0.1 (fr_9_0.2 _) ?_
    refine y_getI dX11_about_83 zk_1 flRX11_111 ?_
    cases h
    exact z_iret dX11_about_86 rfl
  replace h := oF hc4 h
  by_cases hc5 : x1 = (4 : Int32)
  · replace h := oT hc5 h
    refine y_sw (4 : Int32) (4) 87 dX11_about_1 hc5 rfl (by decide) (by decide) rfl rfl ?_
    refine z_aload_n dX11_about_87 0 rfl ?_
    refine y_getR (M := mX11_about) (r := 1) dX11_about_88 zk_0 flRX11_12 fr_9_0.1 (fr_9_0.2 _) ?_
    refine y_getR (M := mX11_about) (r := 6) dX11_about_91 zk_1 flRX11_118 fr_5_1.1 (fr_5_1.2 _) ?_
    refine y_getI dX11_about_94 zk_6 flRX11_187 ?_
    cases h
    exact z_iret dX11_about_97 rfl
  replace h := oF hc5 h
  by_cases hc6 : x1 = (5 : Int32)
  · replace h := oT hc6 h
    refine y_sw (5 : Int32) (5) 98 dX11_about_1 hc6 rfl (by decide) (by decide) rfl rfl ?_
    refine z_aload_n dX11_about_98 0 rfl ?_
    refine y_getR (M := mX11_about) (r := 1) dX11_about_99 zk_0 flRX11_12 fr_9_0.1 (fr_9_0.2 _) ?_
    refine y_getR (M := mX11_about) (r := 130) dX11_about_102 zk_1 flRX11_272 fr_5_8.1 (fr_5_8.2 _) ?_
    refine y_getI dX11_about_105 zk_130 flRX11_276 ?_
    cases h
    exact z_iret dX11_about_108 rfl
  replace h := oF hc6 h
  by_cases hc7 : x1 = (6 : Int32)
  · replace h := oT hc7 h
    refine y_sw (6 : Int32) (6) 109 dX11_about_1 hc7 rfl (by decide) (by decide) rfl rfl ?_
    refine z_aload_n dX11_about_109 0 rfl ?_
    refine y_getR (M := mX11_about) (r := 1) dX11_about_110 zk_0 flRX11_12 fr_9_0.1 (fr_9_0.2 _) ?_
    refine y_getR (M := mX11_about) (r := 132) dX11_about_113 zk_1 flRX11_304 fr_5_9.1 (fr_5_9.2 _) ?_
    refine y_getI dX11_about_116 zk_132 flRX11_276 ?_
    cases h
    exact z_iret dX11_about_119 rfl
  replace h := oF hc7 h
  by_cases hc8 : x1 = (7 : Int32)
  · replace h := oT hc8 h
    refine y_sw (7 : Int32) (7) 120 dX11_about_1 hc8 rfl (by decide) (by decide) rfl rfl ?_
    refine z_aload_n dX11_about_120 0 rfl ?_
    refine y_getR (M := mX11_about) (r := 1) dX11_about_121 zk_0 flRX11_12 fr_9_0.1 (fr_9_0.2 _) ?_
    refine y_getR (M := mX11_about) (r := 134) dX11_about_124 zk_1 flRX11_336 fr_5_10.1 (fr_5_10.2 _) ?_
    refine y_getI dX11_about_127 zk_134 flRX11_276 ?_
    cases h
    exact z_iret dX11_about_130 rfl
  replace h := oF hc8 h
  by_cases hc9 : x1 = (8 : Int32)
  · replace h := oT hc9 h
    refine y_sw (8 : Int32) (8) 131 dX11_about_1 hc9 rfl (by decide) (by decide) rfl rfl ?_
    refine z_aload_n dX11_about_131 0 rfl ?_
    refine y_getR (M := mX11_about) (r := 271) dX11_about_132 zk_0 flRX11_22 fr_9_2.1 (fr_9_2.2 _) ?_
    refine y_getI dX11_about_135 zk_271 flRX11_89 ?_
    cases h
    exact z_iret dX11_about_138 rfl
  replace h := oF hc9 h
  have zhc1 := i32ne hc1 (z := 0) rfl
  have zhc2 := i32ne hc2 (z := 1) rfl
  have zhc3 := i32ne hc3 (z := 2) rfl
  have zhc4 := i32ne hc4 (z := 3) rfl
  have zhc5 := i32ne hc5 (z := 4) rfl
  have zhc6 := i32ne hc6 (z := 5) rfl
  have zhc7 := i32ne hc7 (z := 6) rfl
  have zhc8 := i32ne hc8 (z := 7) rfl
  have zhc9 := i32ne hc9 (z := 8) rfl
  refine z_tableOut 139 dX11_about_1 (by omega) rfl ?_
  refine z_bipush (M := mX11_about) (v := -2) dX11_about_139 rfl ?_
  cases h
  exact z_iret dX11_about_141 rfl
theorem ct_Fm_about {g : GG} {d : Nat} {x1 : Int32} {ν : Nm} {r : Int32} (hd0 : 1 ≤ d)  (h : Fm_about ν x1 = some r) : Ct g d mX11_about [.ref 0, .int x1] (zem ν) (some (.int r), zem ν) := y_entry in_X11_about (Nat.le_of_ble_eq_true rfl) rfl (t_Fm_about hd0 x1 r h)

/-! The constructors. -/
-- FuseMinutes$Pit
theorem dX2_init_0 : decode cX2_init 0 = .ok (.aload_n 0, 1) := by decide +kernel
theorem dX2_init_1 : decode cX2_init 1 = .ok (.invokespecial 3, 3) := by decide +kernel
theorem dX2_init_4 : decode cX2_init 4 = .ok (.aload_n 0, 1) := by decide +kernel
theorem dX2_init_5 : decode cX2_init 5 = .ok (.sipush 311, 3) := by decide +kernel
theorem dX2_init_8 : decode cX2_init 8 = .ok (.putfield 9, 3) := by decide +kernel
theorem dX2_init_11 : decode cX2_init 11 = .ok (.aload_n 0, 1) := by decide +kernel
theorem dX2_init_12 : decode cX2_init 12 = .ok (.iconst 4, 1) := by decide +kernel
theorem dX2_init_13 : decode cX2_init 13 = .ok (.newarray .int, 2) := by decide +kernel
theorem dX2_init_15 : decode cX2_init 15 = .ok (.putfield 15, 3) := by decide +kernel
theorem dX2_init_18 : decode cX2_init 18 = .ok (.aload_n 0, 1) := by decide +kernel
theorem dX2_init_19 : decode cX2_init 19 = .ok (.iconst 4, 1) := by decide +kernel
theorem dX2_init_20 : decode cX2_init 20 = .ok (.newarray .int, 2) := by decide +kernel
theorem dX2_init_22 : decode cX2_init 22 = .ok (.putfield 19, 3) := by decide +kernel
theorem dX2_init_25 : decode cX2_init 25 = .ok (.aload_n 0, 1) := by decide +kernel
theorem dX2_init_26 : decode cX2_init 26 = .ok (.bipush 30, 2) := by decide +kernel
theorem dX2_init_28 : decode cX2_init 28 = .ok (.newarray .int, 2) := by decide +kernel
theorem dX2_init_30 : decode cX2_init 30 = .ok (.putfield 22, 3) := by decide +kernel
theorem dX2_init_33 : decode cX2_init 33 = .ok (.return_, 1) := by decide +kernel
def i_Pt (μ : Mm) (x0 : Nat) : Mm := (zsr (zclr (zsr (zclr (zsr (zclr (zsi μ x0 2 (311 : Int32)) (x0 + 1)) x0 4 (some (x0 + 1))) (x0 + 2)) x0 5 (some (x0 + 2))) (x0 + 3)) x0 6 (some (x0 + 3)))
set_option maxRecDepth 100000 in
set_option maxHeartbeats 4000000 in
theorem ci_Pt {g : GG} {d : Nat} {x0 : Nat} {μ : Mm} (hg : zG g) (hd0 : 1 ≤ d) (hq0 : zk 333 x0 (1, 0)) : CtI g d mX2_init (x0 + 1) (x0 + 4) 38 [.ref x0] μ (i_Pt μ x0) := by
  have hF : zvac g (x0 + 1) (zFI g (x0 + 1) (x0 + 4) 38 (i_Pt μ x0)) := zFI_vac
  refine i_entry (mc := 3) (lv := [(0, .ref x0)]) in_X2_init (Nat.le_of_ble_eq_true rfl) rfl (by omega) ?_
  refine z_aload_n dX2_init_0 0 rfl ?_
  refine z_obj dX2_init_1 (obw obRX2) (by omega) (Nat.le_of_ble_eq_true rfl) ?_
  refine z_aload_n dX2_init_4 0 rfl ?_
  refine z_sipush (M := mX2_init) (v := 311) dX2_init_5 rfl ?_
  refine z_putI dX2_init_8 ⟨by omega, hq0.2⟩ flRX2_9 ⟨rfl, rfl⟩ ?_
  refine z_aload_n dX2_init_11 0 rfl ?_
  refine z_iconst (M := mX2_init) (v := 4) dX2_init_12 rfl ?_
  refine i_newaI hF hg (by omega) dX2_init_13 (zof1 hq0 1 (20, 4) rfl) ⟨by decide, rfl, by decide⟩ arc_int ⟨by decide, by decide⟩ ?_
  refine z_putRF dX2_init_15 ⟨by omega, hq0.2⟩ flRX2_15 rfl rfl (fun _ => ⟨rfl, rfl⟩) ?_
  refine z_aload_n dX2_init_18 0 rfl ?_
  refine z_iconst (M := mX2_init) (v := 4) dX2_init_19 rfl ?_
  refine i_newaI hF hg (by omega) dX2_init_20 (zof1 hq0 2 (20, 4) rfl) ⟨by decide, rfl, by decide⟩ arc_int ⟨by decide, by decide⟩ ?_
  refine z_putRF dX2_init_22 ⟨by omega, hq0.2⟩ flRX2_19 rfl rfl (fun _ => ⟨rfl, rfl⟩) ?_
  refine z_aload_n dX2_init_25 0 rfl ?_
  refine z_bipush (M := mX2_init) (v := 30) dX2_init_26 rfl ?_
  refine i_newaI hF hg (by omega) dX2_init_28 (zof1 hq0 3 (20, 30) rfl) ⟨by decide, rfl, by decide⟩ arc_int ⟨by decide, by decide⟩ ?_
  refine z_putRF dX2_init_30 ⟨by omega, hq0.2⟩ flRX2_22 rfl rfl (fun _ => ⟨rfl, rfl⟩) ?_
  exact i_ret dX2_init_33 rfl (by omega) (fun _ _ => rfl)
-- FuseMinutes$Told
theorem dX10_init_0 : decode cX10_init 0 = .ok (.aload_n 0, 1) := by decide +kernel
theorem dX10_init_1 : decode cX10_init 1 = .ok (.invokespecial 1, 3) := by decide +kernel
theorem dX10_init_4 : decode cX10_init 4 = .ok (.aload_n 0, 1) := by decide +kernel
theorem dX10_init_5 : decode cX10_init 5 = .ok (.iload_n 1, 1) := by decide +kernel
theorem dX10_init_6 : decode cX10_init 6 = .ok (.newarray .int, 2) := by decide +kernel
theorem dX10_init_8 : decode cX10_init 8 = .ok (.putfield 7, 3) := by decide +kernel
theorem dX10_init_11 : decode cX10_init 11 = .ok (.return_, 1) := by decide +kernel
def i_To (μ : Mm) (x0 : Nat) : Mm := (zsr (zclr μ (x0 + 1)) x0 0 (some (x0 + 1)))
set_option maxRecDepth 100000 in
set_option maxHeartbeats 4000000 in
theorem ci_To4 {g : GG} {d : Nat} {x0 : Nat} {μ : Mm} (hg : zG g) (hd0 : 1 ≤ d) (hq0 : zk 333 x0 (8, 0)) (hk1 : zk 333 (x0 + 1) (20, 4)) : CtI g d mX10_init (x0 + 1) (x0 + 2) 4 [.ref x0, .int (4 : Int32)] μ (i_To μ x0) := by
  have hF : zvac g (x0 + 1) (zFI g (x0 + 1) (x0 + 2) 4 (i_To μ x0)) := zFI_vac
  refine i_entry (mc := 1) (lv := [(0, .ref x0), (1, .int (4 : Int32))]) in_X10_init (Nat.le_of_ble_eq_true rfl) rfl (by omega) ?_
  refine z_aload_n dX10_init_0 0 rfl ?_
  refine z_obj dX10_init_1 (obw obRX10) (by omega) (Nat.le_of_ble_eq_true rfl) ?_
  refine z_aload_n dX10_init_4 0 rfl ?_
  refine z_iload_n dX10_init_5 1 rfl ?_
  refine i_newaI hF hg (by omega) dX10_init_6 hk1 ⟨by decide, rfl, by decide⟩ arc_int ⟨by decide, by decide⟩ ?_
  refine z_putRF dX10_init_8 ⟨by omega, hq0.2⟩ flRX10_7 rfl rfl (fun _ => ⟨rfl, rfl⟩) ?_
  exact i_ret dX10_init_11 rfl (by omega) (fun _ _ => rfl)
set_option maxRecDepth 100000 in
set_option maxHeartbeats 4000000 in
theorem ci_To8 {g : GG} {d : Nat} {x0 : Nat} {μ : Mm} (hg : zG g) (hd0 : 1 ≤ d) (hq0 : zk 333 x0 (8, 0)) (hk1 : zk 333 (x0 + 1) (20, 8)) : CtI g d mX10_init (x0 + 1) (x0 + 2) 8 [.ref x0, .int (8 : Int32)] μ (i_To μ x0) := by
  have hF : zvac g (x0 + 1) (zFI g (x0 + 1) (x0 + 2) 8 (i_To μ x0)) := zFI_vac
  refine i_entry (mc := 1) (lv := [(0, .ref x0), (1, .int (8 : Int32))]) in_X10_init (Nat.le_of_ble_eq_true rfl) rfl (by omega) ?_
  refine z_aload_n dX10_init_0 0 rfl ?_
  refine z_obj dX10_init_1 (obw obRX10) (by omega) (Nat.le_of_ble_eq_true rfl) ?_
  refine z_aload_n dX10_init_4 0 rfl ?_
  refine z_iload_n dX10_init_5 1 rfl ?_
  refine i_newaI hF hg (by omega) dX10_init_6 hk1 ⟨by decide, rfl, by decide⟩ arc_int ⟨by decide, by decide⟩ ?_
  refine z_putRF dX10_init_8 ⟨by omega, hq0.2⟩ flRX10_7 rfl rfl (fun _ => ⟨rfl, rfl⟩) ?_
  exact i_ret dX10_init_11 rfl (by omega) (fun _ _ => rfl)
-- FuseMinutes$Steps
theorem dX5_init_0 : decode cX5_init 0 = .ok (.aload_n 0, 1) := by decide +kernel
theorem dX5_init_1 : decode cX5_init 1 = .ok (.invokespecial 3, 3) := by decide +kernel
theorem dX5_init_4 : decode cX5_init 4 = .ok (.aload_n 0, 1) := by decide +kernel
theorem dX5_init_5 : decode cX5_init 5 = .ok (.bipush 30, 2) := by decide +kernel
theorem dX5_init_7 : decode cX5_init 7 = .ok (.anewarray 9, 3) := by decide +kernel
theorem dX5_init_10 : decode cX5_init 10 = .ok (.putfield 11, 3) := by decide +kernel
theorem dX5_init_13 : decode cX5_init 13 = .ok (.iconst 0, 1) := by decide +kernel
theorem dX5_init_14 : decode cX5_init 14 = .ok (.istore_n 1, 1) := by decide +kernel
theorem dX5_init_15 : decode cX5_init 15 = .ok (.iload_n 1, 1) := by decide +kernel
theorem dX5_init_16 : decode cX5_init 16 = .ok (.bipush 30, 2) := by decide +kernel
theorem dX5_init_18 : decode cX5_init 18 = .ok (.if_icmp .ge 22, 3) := by decide +kernel
theorem dX5_init_21 : decode cX5_init 21 = .ok (.aload_n 0, 1) := by decide +kernel
theorem dX5_init_22 : decode cX5_init 22 = .ok (.getfield 11, 3) := by decide +kernel
theorem dX5_init_25 : decode cX5_init 25 = .ok (.iload_n 1, 1) := by decide +kernel
theorem dX5_init_26 : decode cX5_init 26 = .ok (.new 9, 3) := by decide +kernel
theorem dX5_init_29 : decode cX5_init 29 = .ok (.dup, 1) := by decide +kernel
theorem dX5_init_30 : decode cX5_init 30 = .ok (.invokespecial 17, 3) := by decide +kernel
theorem dX5_init_33 : decode cX5_init 33 = .ok (.aastore, 1) := by decide +kernel
theorem dX5_init_34 : decode cX5_init 34 = .ok (.iinc 1 1, 3) := by decide +kernel
theorem dX5_init_37 : decode cX5_init 37 = .ok (.goto (-22), 3) := by decide +kernel
theorem dX5_init_40 : decode cX5_init 40 = .ok (.return_, 1) := by decide +kernel
def i_St (μ : Mm) (x0 : Nat) : Mm := (zsr (i_Pt (zclr (zsr (i_Pt (zclr (zsr (i_Pt (zclr (zsr (i_Pt (zclr (zsr (i_Pt (zclr (zsr (i_Pt (zclr (zsr (i_Pt (zclr (zsr (i_Pt (zclr (zsr (i_Pt (zclr (zsr (i_Pt (zclr (zsr (i_Pt (zclr (zsr (i_Pt (zclr (zsr (i_Pt (zclr (zsr (i_Pt (zclr (zsr (i_Pt (zclr (zsr (i_Pt (zclr (zsr (i_Pt (zclr (zsr (i_Pt (zclr (zsr (i_Pt (zclr (zsr (i_Pt (zclr (zsr (i_Pt (zclr (zsr (i_Pt (zclr (zsr (i_Pt (zclr (zsr (i_Pt (zclr (zsr (i_Pt (zclr (zsr (i_Pt (zclr (zsr (i_Pt (zclr (zsr (i_Pt (zclr (zsr (i_Pt (zclr (zsr (i_Pt (zclr (zsr (zclr μ (x0 + 1)) x0 0 (some (x0 + 1))) (x0 + 2)) (x0 + 2)) (x0 + 1) 0 (some (x0 + 2))) (x0 + 6)) (x0 + 6)) (x0 + 1) 1 (some (x0 + 6))) (x0 + 10)) (x0 + 10)) (x0 + 1) 2 (some (x0 + 10))) (x0 + 14)) (x0 + 14)) (x0 + 1) 3 (some (x0 + 14))) (x0 + 18)) (x0 + 18)) (x0 + 1) 4 (some (x0 + 18))) (x0 + 22)) (x0 + 22)) (x0 + 1) 5 (some (x0 + 22))) (x0 + 26)) (x0 + 26)) (x0 + 1) 6 (some (x0 + 26))) (x0 + 30)) (x0 + 30)) (x0 + 1) 7 (some (x0 + 30))) (x0 + 34)) (x0 + 34)) (x0 + 1) 8 (some (x0 + 34))) (x0 + 38)) (x0 + 38)) (x0 + 1) 9 (some (x0 + 38))) (x0 + 42)) (x0 + 42)) (x0 + 1) 10 (some (x0 + 42))) (x0 + 46)) (x0 + 46)) (x0 + 1) 11 (some (x0 + 46))) (x0 + 50)) (x0 + 50)) (x0 + 1) 12 (some (x0 + 50))) (x0 + 54)) (x0 + 54)) (x0 + 1) 13 (some (x0 + 54))) (x0 + 58)) (x0 + 58)) (x0 + 1) 14 (some (x0 + 58))) (x0 + 62)) (x0 + 62)) (x0 + 1) 15 (some (x0 + 62))) (x0 + 66)) (x0 + 66)) (x0 + 1) 16 (some (x0 + 66))) (x0 + 70)) (x0 + 70)) (x0 + 1) 17 (some (x0 + 70))) (x0 + 74)) (x0 + 74)) (x0 + 1) 18 (some (x0 + 74))) (x0 + 78)) (x0 + 78)) (x0 + 1) 19 (some (x0 + 78))) (x0 + 82)) (x0 + 82)) (x0 + 1) 20 (some (x0 + 82))) (x0 + 86)) (x0 + 86)) (x0 + 1) 21 (some (x0 + 86))) (x0 + 90)) (x0 + 90)) (x0 + 1) 22 (some (x0 + 90))) (x0 + 94)) (x0 + 94)) (x0 + 1) 23 (some (x0 + 94))) (x0 + 98)) (x0 + 98)) (x0 + 1) 24 (some (x0 + 98))) (x0 + 102)) (x0 + 102)) (x0 + 1) 25 (some (x0 + 102))) (x0 + 106)) (x0 + 106)) (x0 + 1) 26 (some (x0 + 106))) (x0 + 110)) (x0 + 110)) (x0 + 1) 27 (some (x0 + 110))) (x0 + 114)) (x0 + 114)) (x0 + 1) 28 (some (x0 + 114))) (x0 + 118)) (x0 + 118)) (x0 + 1) 29 (some (x0 + 118)))
set_option maxRecDepth 100000 in
set_option maxHeartbeats 4000000 in
theorem ci_St {g : GG} {d : Nat} {x0 : Nat} {μ : Mm} (hg : zG g) (hd0 : 2 ≤ d) (hq0 : zk 333 x0 (4, 0)) : CtI g d mX5_init (x0 + 1) (x0 + 122) 1410 [.ref x0] μ (i_St μ x0) := by
  have hF : zvac g (x0 + 1) (zFI g (x0 + 1) (x0 + 122) 1410 (i_St μ x0)) := zFI_vac
  refine i_entry (mc := 121) (lv := [(0, .ref x0)]) in_X5_init (Nat.le_of_ble_eq_true rfl) rfl (by omega) ?_
  refine z_aload_n dX5_init_0 0 rfl ?_
  refine z_obj dX5_init_1 (obw obRX5) (by omega) (Nat.le_of_ble_eq_true rfl) ?_
  refine z_aload_n dX5_init_4 0 rfl ?_
  refine z_bipush (M := mX5_init) (v := 30) dX5_init_5 rfl ?_
  refine i_newqP hF hg (by omega) dX5_init_7 (zof4 hq0 1 (23, 30) rfl) ⟨by decide, rfl, by decide⟩ cwRX5_9.1 ⟨by decide, by decide⟩ ?_
  refine z_putRF dX5_init_10 ⟨by omega, hq0.2⟩ flRX5_11 rfl rfl (fun _ => ⟨rfl, rfl⟩) ?_
  refine z_iconst (M := mX5_init) (v := 0) dX5_init_13 rfl ?_
  refine z_istore_n (M := mX5_init) (lv2 := [(1, .int (0 : Int32)), (0, .ref x0)]) dX5_init_14 (Nat.le_of_ble_eq_true rfl) rfl ?_
  refine z_iload_n dX5_init_15 0 rfl ?_
  refine z_bipush (M := mX5_init) (v := 30) dX5_init_16 rfl ?_
  refine z_icmp_ge 40 dX5_init_18 rfl (fun h => absurd h (by decide)) (fun _ => ?_)
  refine z_aload_n dX5_init_21 1 rfl ?_
  refine z_getR (M := mX5_init) (r := (x0 + 1)) dX5_init_22 ⟨by omega, hq0.2⟩ flRX5_11 (by simp [zsr, zclr, zsi, va_up, i_Pt, Nat.add_assoc]) ?_
  refine z_iload_n dX5_init_25 0 rfl ?_
  refine i_new hF hg (by omega) dX5_init_26 zcX2 dfX2 (zof4 hq0 2 (1, 0) rfl) cwRX5_9 ⟨by decide, by decide⟩ ?_
  refine z_dup dX5_init_29 rfl ?_
  refine i_call (M := mX5_init) (n1 := (x0 + 6)) (ms := 38) (cl2 := 5) (sl2 := 76) (Y := mX2_init) (d2 := d - 1) (As := []) (st := [.ref (x0 + 2), .int (0 : Int32), .ref (x0 + 1)]) hF hg (by omega) (zof4 hq0 2 (1, 0) rfl).1 dX5_init_30 (Or.inr nlRX5_17) ck_X2_init (ci_Pt (g := g) (d := d - 1) hg (by omega) (zof4 hq0 2 (1, 0) rfl)) (by omega) rfl rfl (Nat.le_of_ble_eq_true rfl) (by omega) rfl ⟨by decide, by decide⟩ ?_
  refine z_aastP dX5_init_33 ⟨by omega, (zof4 hq0 1 (23, 30) rfl).2⟩ ⟨by omega, (zof4 hq0 2 (1, 0) rfl).2⟩ (inb_vp rfl) ?_
  refine z_iinc (M := mX5_init) (v := (1 : Int32)) (lv2 := [(1, .int (1 : Int32)), (0, .ref x0)]) dX5_init_34 0 rfl rfl (Nat.le_of_ble_eq_true rfl) rfl ?_
  refine z_goto 15 dX5_init_37 rfl ?_
  refine z_iload_n dX5_init_15 0 rfl ?_
  refine z_bipush (M := mX5_init) (v := 30) dX5_init_16 rfl ?_
  refine z_icmp_ge 40 dX5_init_18 rfl (fun h => absurd h (by decide)) (fun _ => ?_)
  refine z_aload_n dX5_init_21 1 rfl ?_
  refine z_getR (M := mX5_init) (r := (x0 + 1)) dX5_init_22 ⟨by omega, hq0.2⟩ flRX5_11 (by simp [zsr, zclr, zsi, va_up, i_Pt, Nat.add_assoc]) ?_
  refine z_iload_n dX5_init_25 0 rfl ?_
  refine i_new hF hg (by omega) dX5_init_26 zcX2 dfX2 (zof4 hq0 6 (1, 0) rfl) cwRX5_9 ⟨by decide, by decide⟩ ?_
  refine z_dup dX5_init_29 rfl ?_
  refine i_call (M := mX5_init) (n1 := (x0 + 10)) (ms := 38) (cl2 := 9) (sl2 := 122) (Y := mX2_init) (d2 := d - 1) (As := []) (st := [.ref (x0 + 6), .int (1 : Int32), .ref (x0 + 1)]) hF hg (by omega) (zof4 hq0 6 (1, 0) rfl).1 dX5_init_30 (Or.inr nlRX5_17) ck_X2_init (ci_Pt (g := g) (d := d - 1) hg (by omega) (zof4 hq0 6 (1, 0) rfl)) (by omega) rfl rfl (Nat.le_of_ble_eq_true rfl) (by omega) rfl ⟨by decide, by decide⟩ ?_
  refine z_aastP dX5_init_33 ⟨by omega, (zof4 hq0 1 (23, 30) rfl).2⟩ ⟨by omega, (zof4 hq0 6 (1, 0) rfl).2⟩ (inb_vp rfl) ?_
  refine z_iinc (M := mX5_init) (v := (2 : Int32)) (lv2 := [(1, .int (2 : Int32)), (0, .ref x0)]) dX5_init_34 0 rfl rfl (Nat.le_of_ble_eq_true rfl) rfl ?_
  refine z_goto 15 dX5_init_37 rfl ?_
  refine z_iload_n dX5_init_15 0 rfl ?_
  refine z_bipush (M := mX5_init) (v := 30) dX5_init_16 rfl ?_
  refine z_icmp_ge 40 dX5_init_18 rfl (fun h => absurd h (by decide)) (fun _ => ?_)
  refine z_aload_n dX5_init_21 1 rfl ?_
  refine z_getR (M := mX5_init) (r := (x0 + 1)) dX5_init_22 ⟨by omega, hq0.2⟩ flRX5_11 (by simp [zsr, zclr, zsi, va_up, i_Pt, Nat.add_assoc]) ?_
  refine z_iload_n dX5_init_25 0 rfl ?_
  refine i_new hF hg (by omega) dX5_init_26 zcX2 dfX2 (zof4 hq0 10 (1, 0) rfl) cwRX5_9 ⟨by decide, by decide⟩ ?_
  refine z_dup dX5_init_29 rfl ?_
  refine i_call (M := mX5_init) (n1 := (x0 + 14)) (ms := 38) (cl2 := 13) (sl2 := 168) (Y := mX2_init) (d2 := d - 1) (As := []) (st := [.ref (x0 + 10), .int (2 : Int32), .ref (x0 + 1)]) hF hg (by omega) (zof4 hq0 10 (1, 0) rfl).1 dX5_init_30 (Or.inr nlRX5_17) ck_X2_init (ci_Pt (g := g) (d := d - 1) hg (by omega) (zof4 hq0 10 (1, 0) rfl)) (by omega) rfl rfl (Nat.le_of_ble_eq_true rfl) (by omega) rfl ⟨by decide, by decide⟩ ?_
  refine z_aastP dX5_init_33 ⟨by omega, (zof4 hq0 1 (23, 30) rfl).2⟩ ⟨by omega, (zof4 hq0 10 (1, 0) rfl).2⟩ (inb_vp rfl) ?_
  refine z_iinc (M := mX5_init) (v := (3 : Int32)) (lv2 := [(1, .int (3 : Int32)), (0, .ref x0)]) dX5_init_34 0 rfl rfl (Nat.le_of_ble_eq_true rfl) rfl ?_
  refine z_goto 15 dX5_init_37 rfl ?_
  refine z_iload_n dX5_init_15 0 rfl ?_
  refine z_bipush (M := mX5_init) (v := 30) dX5_init_16 rfl ?_
  refine z_icmp_ge 40 dX5_init_18 rfl (fun h => absurd h (by decide)) (fun _ => ?_)
  refine z_aload_n dX5_init_21 1 rfl ?_
  refine z_getR (M := mX5_init) (r := (x0 + 1)) dX5_init_22 ⟨by omega, hq0.2⟩ flRX5_11 (by simp [zsr, zclr, zsi, va_up, i_Pt, Nat.add_assoc]) ?_
  refine z_iload_n dX5_init_25 0 rfl ?_
  refine i_new hF hg (by omega) dX5_init_26 zcX2 dfX2 (zof4 hq0 14 (1, 0) rfl) cwRX5_9 ⟨by decide, by decide⟩ ?_
  refine z_dup dX5_init_29 rfl ?_
  refine i_call (M := mX5_init) (n1 := (x0 + 18)) (ms := 38) (cl2 := 17) (sl2 := 214) (Y := mX2_init) (d2 := d - 1) (As := []) (st := [.ref (x0 + 14), .int (3 : Int32), .ref (x0 + 1)]) hF hg (by omega) (zof4 hq0 14 (1, 0) rfl).1 dX5_init_30 (Or.inr nlRX5_17) ck_X2_init (ci_Pt (g := g) (d := d - 1) hg (by omega) (zof4 hq0 14 (1, 0) rfl)) (by omega) rfl rfl (Nat.le_of_ble_eq_true rfl) (by omega) rfl ⟨by decide, by decide⟩ ?_
  refine z_aastP dX5_init_33 ⟨by omega, (zof4 hq0 1 (23, 30) rfl).2⟩ ⟨by omega, (zof4 hq0 14 (1, 0) rfl).2⟩ (inb_vp rfl) ?_
  refine z_iinc (M := mX5_init) (v := (4 : Int32)) (lv2 := [(1, .int (4 : Int32)), (0, .ref x0)]) dX5_init_34 0 rfl rfl (Nat.le_of_ble_eq_true rfl) rfl ?_
  refine z_goto 15 dX5_init_37 rfl ?_
  refine z_iload_n dX5_init_15 0 rfl ?_
  refine z_bipush (M := mX5_init) (v := 30) dX5_init_16 rfl ?_
  refine z_icmp_ge 40 dX5_init_18 rfl (fun h => absurd h (by decide)) (fun _ => ?_)
  refine z_aload_n dX5_init_21 1 rfl ?_
  refine z_getR (M := mX5_init) (r := (x0 + 1)) dX5_init_22 ⟨by omega, hq0.2⟩ flRX5_11 (by simp [zsr, zclr, zsi, va_up, i_Pt, Nat.add_assoc]) ?_
  refine z_iload_n dX5_init_25 0 rfl ?_
  refine i_new hF hg (by omega) dX5_init_26 zcX2 dfX2 (zof4 hq0 18 (1, 0) rfl) cwRX5_9 ⟨by decide, by decide⟩ ?_
  refine z_dup dX5_init_29 rfl ?_
  refine i_call (M := mX5_init) (n1 := (x0 + 22)) (ms := 38) (cl2 := 21) (sl2 := 260) (Y := mX2_init) (d2 := d - 1) (As := []) (st := [.ref (x0 + 18), .int (4 : Int32), .ref (x0 + 1)]) hF hg (by omega) (zof4 hq0 18 (1, 0) rfl).1 dX5_init_30 (Or.inr nlRX5_17) ck_X2_init (ci_Pt (g := g) (d := d - 1) hg (by omega) (zof4 hq0 18 (1, 0) rfl)) (by omega) rfl rfl (Nat.le_of_ble_eq_true rfl) (by omega) rfl ⟨by decide, by decide⟩ ?_
  refine z_aastP dX5_init_33 ⟨by omega, (zof4 hq0 1 (23, 30) rfl).2⟩ ⟨by omega, (zof4 hq0 18 (1, 0) rfl).2⟩ (inb_vp rfl) ?_
  refine z_iinc (M := mX5_init) (v := (5 : Int32)) (lv2 := [(1, .int (5 : Int32)), (0, .ref x0)]) dX5_init_34 0 rfl rfl (Nat.le_of_ble_eq_true rfl) rfl ?_
  refine z_goto 15 dX5_init_37 rfl ?_
  refine z_iload_n dX5_init_15 0 rfl ?_
  refine z_bipush (M := mX5_init) (v := 30) dX5_init_16 rfl ?_
  refine z_icmp_ge 40 dX5_init_18 rfl (fun h => absurd h (by decide)) (fun _ => ?_)
  refine z_aload_n dX5_init_21 1 rfl ?_
  refine z_getR (M := mX5_init) (r := (x0 + 1)) dX5_init_22 ⟨by omega, hq0.2⟩ flRX5_11 (by simp [zsr, zclr, zsi, va_up, i_Pt, Nat.add_assoc]) ?_
  refine z_iload_n dX5_init_25 0 rfl ?_
  refine i_new hF hg (by omega) dX5_init_26 zcX2 dfX2 (zof4 hq0 22 (1, 0) rfl) cwRX5_9 ⟨by decide, by decide⟩ ?_
  refine z_dup dX5_init_29 rfl ?_
  refine i_call (M := mX5_init) (n1 := (x0 + 26)) (ms := 38) (cl2 := 25) (sl2 := 306) (Y := mX2_init) (d2 := d - 1) (As := []) (st := [.ref (x0 + 22), .int (5 : Int32), .ref (x0 + 1)]) hF hg (by omega) (zof4 hq0 22 (1, 0) rfl).1 dX5_init_30 (Or.inr nlRX5_17) ck_X2_init (ci_Pt (g := g) (d := d - 1) hg (by omega) (zof4 hq0 22 (1, 0) rfl)) (by omega) rfl rfl (Nat.le_of_ble_eq_true rfl) (by omega) rfl ⟨by decide, by decide⟩ ?_
  refine z_aastP dX5_init_33 ⟨by omega, (zof4 hq0 1 (23, 30) rfl).2⟩ ⟨by omega, (zof4 hq0 22 (1, 0) rfl).2⟩ (inb_vp rfl) ?_
  refine z_iinc (M := mX5_init) (v := (6 : Int32)) (lv2 := [(1, .int (6 : Int32)), (0, .ref x0)]) dX5_init_34 0 rfl rfl (Nat.le_of_ble_eq_true rfl) rfl ?_
  refine z_goto 15 dX5_init_37 rfl ?_
  refine z_iload_n dX5_init_15 0 rfl ?_
  refine z_bipush (M := mX5_init) (v := 30) dX5_init_16 rfl ?_
  refine z_icmp_ge 40 dX5_init_18 rfl (fun h => absurd h (by decide)) (fun _ => ?_)
  refine z_aload_n dX5_init_21 1 rfl ?_
  refine z_getR (M := mX5_init) (r := (x0 + 1)) dX5_init_22 ⟨by omega, hq0.2⟩ flRX5_11 (by simp [zsr, zclr, zsi, va_up, i_Pt, Nat.add_assoc]) ?_
  refine z_iload_n dX5_init_25 0 rfl ?_
  refine i_new hF hg (by omega) dX5_init_26 zcX2 dfX2 (zof4 hq0 26 (1, 0) rfl) cwRX5_9 ⟨by decide, by decide⟩ ?_
  refine z_dup dX5_init_29 rfl ?_
  refine i_call (M := mX5_init) (n1 := (x0 + 30)) (ms := 38) (cl2 := 29) (sl2 := 352) (Y := mX2_init) (d2 := d - 1) (As := []) (st := [.ref (x0 + 26), .int (6 : Int32), .ref (x0 + 1)]) hF hg (by omega) (zof4 hq0 26 (1, 0) rfl).1 dX5_init_30 (Or.inr nlRX5_17) ck_X2_init (ci_Pt (g := g) (d := d - 1) hg (by omega) (zof4 hq0 26 (1, 0) rfl)) (by omega) rfl rfl (Nat.le_of_ble_eq_true rfl) (by omega) rfl ⟨by decide, by decide⟩ ?_
  refine z_aastP dX5_init_33 ⟨by omega, (zof4 hq0 1 (23, 30) rfl).2⟩ ⟨by omega, (zof4 hq0 26 (1, 0) rfl).2⟩ (inb_vp rfl) ?_
  refine z_iinc (M := mX5_init) (v := (7 : Int32)) (lv2 := [(1, .int (7 : Int32)), (0, .ref x0)]) dX5_init_34 0 rfl rfl (Nat.le_of_ble_eq_true rfl) rfl ?_
  refine z_goto 15 dX5_init_37 rfl ?_
  refine z_iload_n dX5_init_15 0 rfl ?_
  refine z_bipush (M := mX5_init) (v := 30) dX5_init_16 rfl ?_
  refine z_icmp_ge 40 dX5_init_18 rfl (fun h => absurd h (by decide)) (fun _ => ?_)
  refine z_aload_n dX5_init_21 1 rfl ?_
  refine z_getR (M := mX5_init) (r := (x0 + 1)) dX5_init_22 ⟨by omega, hq0.2⟩ flRX5_11 (by simp [zsr, zclr, zsi, va_up, i_Pt, Nat.add_assoc]) ?_
  refine z_iload_n dX5_init_25 0 rfl ?_
  refine i_new hF hg (by omega) dX5_init_26 zcX2 dfX2 (zof4 hq0 30 (1, 0) rfl) cwRX5_9 ⟨by decide, by decide⟩ ?_
  refine z_dup dX5_init_29 rfl ?_
  refine i_call (M := mX5_init) (n1 := (x0 + 34)) (ms := 38) (cl2 := 33) (sl2 := 398) (Y := mX2_init) (d2 := d - 1) (As := []) (st := [.ref (x0 + 30), .int (7 : Int32), .ref (x0 + 1)]) hF hg (by omega) (zof4 hq0 30 (1, 0) rfl).1 dX5_init_30 (Or.inr nlRX5_17) ck_X2_init (ci_Pt (g := g) (d := d - 1) hg (by omega) (zof4 hq0 30 (1, 0) rfl)) (by omega) rfl rfl (Nat.le_of_ble_eq_true rfl) (by omega) rfl ⟨by decide, by decide⟩ ?_
  refine z_aastP dX5_init_33 ⟨by omega, (zof4 hq0 1 (23, 30) rfl).2⟩ ⟨by omega, (zof4 hq0 30 (1, 0) rfl).2⟩ (inb_vp rfl) ?_
  refine z_iinc (M := mX5_init) (v := (8 : Int32)) (lv2 := [(1, .int (8 : Int32)), (0, .ref x0)]) dX5_init_34 0 rfl rfl (Nat.le_of_ble_eq_true rfl) rfl ?_
  refine z_goto 15 dX5_init_37 rfl ?_
  refine z_iload_n dX5_init_15 0 rfl ?_
  refine z_bipush (M := mX5_init) (v := 30) dX5_init_16 rfl ?_
  refine z_icmp_ge 40 dX5_init_18 rfl (fun h => absurd h (by decide)) (fun _ => ?_)
  refine z_aload_n dX5_init_21 1 rfl ?_
  refine z_getR (M := mX5_init) (r := (x0 + 1)) dX5_init_22 ⟨by omega, hq0.2⟩ flRX5_11 (by simp [zsr, zclr, zsi, va_up, i_Pt, Nat.add_assoc]) ?_
  refine z_iload_n dX5_init_25 0 rfl ?_
  refine i_new hF hg (by omega) dX5_init_26 zcX2 dfX2 (zof4 hq0 34 (1, 0) rfl) cwRX5_9 ⟨by decide, by decide⟩ ?_
  refine z_dup dX5_init_29 rfl ?_
  refine i_call (M := mX5_init) (n1 := (x0 + 38)) (ms := 38) (cl2 := 37) (sl2 := 444) (Y := mX2_init) (d2 := d - 1) (As := []) (st := [.ref (x0 + 34), .int (8 : Int32), .ref (x0 + 1)]) hF hg (by omega) (zof4 hq0 34 (1, 0) rfl).1 dX5_init_30 (Or.inr nlRX5_17) ck_X2_init (ci_Pt (g := g) (d := d - 1) hg (by omega) (zof4 hq0 34 (1, 0) rfl)) (by omega) rfl rfl (Nat.le_of_ble_eq_true rfl) (by omega) rfl ⟨by decide, by decide⟩ ?_
  refine z_aastP dX5_init_33 ⟨by omega, (zof4 hq0 1 (23, 30) rfl).2⟩ ⟨by omega, (zof4 hq0 34 (1, 0) rfl).2⟩ (inb_vp rfl) ?_
  refine z_iinc (M := mX5_init) (v := (9 : Int32)) (lv2 := [(1, .int (9 : Int32)), (0, .ref x0)]) dX5_init_34 0 rfl rfl (Nat.le_of_ble_eq_true rfl) rfl ?_
  refine z_goto 15 dX5_init_37 rfl ?_
  refine z_iload_n dX5_init_15 0 rfl ?_
  refine z_bipush (M := mX5_init) (v := 30) dX5_init_16 rfl ?_
  refine z_icmp_ge 40 dX5_init_18 rfl (fun h => absurd h (by decide)) (fun _ => ?_)
  refine z_aload_n dX5_init_21 1 rfl ?_
  refine z_getR (M := mX5_init) (r := (x0 + 1)) dX5_init_22 ⟨by omega, hq0.2⟩ flRX5_11 (by simp [zsr, zclr, zsi, va_up, i_Pt, Nat.add_assoc]) ?_
  refine z_iload_n dX5_init_25 0 rfl ?_
  refine i_new hF hg (by omega) dX5_init_26 zcX2 dfX2 (zof4 hq0 38 (1, 0) rfl) cwRX5_9 ⟨by decide, by decide⟩ ?_
  refine z_dup dX5_init_29 rfl ?_
  refine i_call (M := mX5_init) (n1 := (x0 + 42)) (ms := 38) (cl2 := 41) (sl2 := 490) (Y := mX2_init) (d2 := d - 1) (As := []) (st := [.ref (x0 + 38), .int (9 : Int32), .ref (x0 + 1)]) hF hg (by omega) (zof4 hq0 38 (1, 0) rfl).1 dX5_init_30 (Or.inr nlRX5_17) ck_X2_init (ci_Pt (g := g) (d := d - 1) hg (by omega) (zof4 hq0 38 (1, 0) rfl)) (by omega) rfl rfl (Nat.le_of_ble_eq_true rfl) (by omega) rfl ⟨by decide, by decide⟩ ?_
  refine z_aastP dX5_init_33 ⟨by omega, (zof4 hq0 1 (23, 30) rfl).2⟩ ⟨by omega, (zof4 hq0 38 (1, 0) rfl).2⟩ (inb_vp rfl) ?_
  refine z_iinc (M := mX5_init) (v := (10 : Int32)) (lv2 := [(1, .int (10 : Int32)), (0, .ref x0)]) dX5_init_34 0 rfl rfl (Nat.le_of_ble_eq_true rfl) rfl ?_
  refine z_goto 15 dX5_init_37 rfl ?_
  refine z_iload_n dX5_init_15 0 rfl ?_
  refine z_bipush (M := mX5_init) (v := 30) dX5_init_16 rfl ?_
  refine z_icmp_ge 40 dX5_init_18 rfl (fun h => absurd h (by decide)) (fun _ => ?_)
  refine z_aload_n dX5_init_21 1 rfl ?_
  refine z_getR (M := mX5_init) (r := (x0 + 1)) dX5_init_22 ⟨by omega, hq0.2⟩ flRX5_11 (by simp [zsr, zclr, zsi, va_up, i_Pt, Nat.add_assoc]) ?_
  refine z_iload_n dX5_init_25 0 rfl ?_
  refine i_new hF hg (by omega) dX5_init_26 zcX2 dfX2 (zof4 hq0 42 (1, 0) rfl) cwRX5_9 ⟨by decide, by decide⟩ ?_
  refine z_dup dX5_init_29 rfl ?_
  refine i_call (M := mX5_init) (n1 := (x0 + 46)) (ms := 38) (cl2 := 45) (sl2 := 536) (Y := mX2_init) (d2 := d - 1) (As := []) (st := [.ref (x0 + 42), .int (10 : Int32), .ref (x0 + 1)]) hF hg (by omega) (zof4 hq0 42 (1, 0) rfl).1 dX5_init_30 (Or.inr nlRX5_17) ck_X2_init (ci_Pt (g := g) (d := d - 1) hg (by omega) (zof4 hq0 42 (1, 0) rfl)) (by omega) rfl rfl (Nat.le_of_ble_eq_true rfl) (by omega) rfl ⟨by decide, by decide⟩ ?_
  refine z_aastP dX5_init_33 ⟨by omega, (zof4 hq0 1 (23, 30) rfl).2⟩ ⟨by omega, (zof4 hq0 42 (1, 0) rfl).2⟩ (inb_vp rfl) ?_
  refine z_iinc (M := mX5_init) (v := (11 : Int32)) (lv2 := [(1, .int (11 : Int32)), (0, .ref x0)]) dX5_init_34 0 rfl rfl (Nat.le_of_ble_eq_true rfl) rfl ?_
  refine z_goto 15 dX5_init_37 rfl ?_
  refine z_iload_n dX5_init_15 0 rfl ?_
  refine z_bipush (M := mX5_init) (v := 30) dX5_init_16 rfl ?_
  refine z_icmp_ge 40 dX5_init_18 rfl (fun h => absurd h (by decide)) (fun _ => ?_)
  refine z_aload_n dX5_init_21 1 rfl ?_
  refine z_getR (M := mX5_init) (r := (x0 + 1)) dX5_init_22 ⟨by omega, hq0.2⟩ flRX5_11 (by simp [zsr, zclr, zsi, va_up, i_Pt, Nat.add_assoc]) ?_
  refine z_iload_n dX5_init_25 0 rfl ?_
  refine i_new hF hg (by omega) dX5_init_26 zcX2 dfX2 (zof4 hq0 46 (1, 0) rfl) cwRX5_9 ⟨by decide, by decide⟩ ?_
  refine z_dup dX5_init_29 rfl ?_
  refine i_call (M := mX5_init) (n1 := (x0 + 50)) (ms := 38) (cl2 := 49) (sl2 := 582) (Y := mX2_init) (d2 := d - 1) (As := []) (st := [.ref (x0 + 46), .int (11 : Int32), .ref (x0 + 1)]) hF hg (by omega) (zof4 hq0 46 (1, 0) rfl).1 dX5_init_30 (Or.inr nlRX5_17) ck_X2_init (ci_Pt (g := g) (d := d - 1) hg (by omega) (zof4 hq0 46 (1, 0) rfl)) (by omega) rfl rfl (Nat.le_of_ble_eq_true rfl) (by omega) rfl ⟨by decide, by decide⟩ ?_
  refine z_aastP dX5_init_33 ⟨by omega, (zof4 hq0 1 (23, 30) rfl).2⟩ ⟨by omega, (zof4 hq0 46 (1, 0) rfl).2⟩ (inb_vp rfl) ?_
  refine z_iinc (M := mX5_init) (v := (12 : Int32)) (lv2 := [(1, .int (12 : Int32)), (0, .ref x0)]) dX5_init_34 0 rfl rfl (Nat.le_of_ble_eq_true rfl) rfl ?_
  refine z_goto 15 dX5_init_37 rfl ?_
  refine z_iload_n dX5_init_15 0 rfl ?_
  refine z_bipush (M := mX5_init) (v := 30) dX5_init_16 rfl ?_
  refine z_icmp_ge 40 dX5_init_18 rfl (fun h => absurd h (by decide)) (fun _ => ?_)
  refine z_aload_n dX5_init_21 1 rfl ?_
  refine z_getR (M := mX5_init) (r := (x0 + 1)) dX5_init_22 ⟨by omega, hq0.2⟩ flRX5_11 (by simp [zsr, zclr, zsi, va_up, i_Pt, Nat.add_assoc]) ?_
  refine z_iload_n dX5_init_25 0 rfl ?_
  refine i_new hF hg (by omega) dX5_init_26 zcX2 dfX2 (zof4 hq0 50 (1, 0) rfl) cwRX5_9 ⟨by decide, by decide⟩ ?_
  refine z_dup dX5_init_29 rfl ?_
  refine i_call (M := mX5_init) (n1 := (x0 + 54)) (ms := 38) (cl2 := 53) (sl2 := 628) (Y := mX2_init) (d2 := d - 1) (As := []) (st := [.ref (x0 + 50), .int (12 : Int32), .ref (x0 + 1)]) hF hg (by omega) (zof4 hq0 50 (1, 0) rfl).1 dX5_init_30 (Or.inr nlRX5_17) ck_X2_init (ci_Pt (g := g) (d := d - 1) hg (by omega) (zof4 hq0 50 (1, 0) rfl)) (by omega) rfl rfl (Nat.le_of_ble_eq_true rfl) (by omega) rfl ⟨by decide, by decide⟩ ?_
  refine z_aastP dX5_init_33 ⟨by omega, (zof4 hq0 1 (23, 30) rfl).2⟩ ⟨by omega, (zof4 hq0 50 (1, 0) rfl).2⟩ (inb_vp rfl) ?_
  refine z_iinc (M := mX5_init) (v := (13 : Int32)) (lv2 := [(1, .int (13 : Int32)), (0, .ref x0)]) dX5_init_34 0 rfl rfl (Nat.le_of_ble_eq_true rfl) rfl ?_
  refine z_goto 15 dX5_init_37 rfl ?_
  refine z_iload_n dX5_init_15 0 rfl ?_
  refine z_bipush (M := mX5_init) (v := 30) dX5_init_16 rfl ?_
  refine z_icmp_ge 40 dX5_init_18 rfl (fun h => absurd h (by decide)) (fun _ => ?_)
  refine z_aload_n dX5_init_21 1 rfl ?_
  refine z_getR (M := mX5_init) (r := (x0 + 1)) dX5_init_22 ⟨by omega, hq0.2⟩ flRX5_11 (by simp [zsr, zclr, zsi, va_up, i_Pt, Nat.add_assoc]) ?_
  refine z_iload_n dX5_init_25 0 rfl ?_
  refine i_new hF hg (by omega) dX5_init_26 zcX2 dfX2 (zof4 hq0 54 (1, 0) rfl) cwRX5_9 ⟨by decide, by decide⟩ ?_
  refine z_dup dX5_init_29 rfl ?_
  refine i_call (M := mX5_init) (n1 := (x0 + 58)) (ms := 38) (cl2 := 57) (sl2 := 674) (Y := mX2_init) (d2 := d - 1) (As := []) (st := [.ref (x0 + 54), .int (13 : Int32), .ref (x0 + 1)]) hF hg (by omega) (zof4 hq0 54 (1, 0) rfl).1 dX5_init_30 (Or.inr nlRX5_17) ck_X2_init (ci_Pt (g := g) (d := d - 1) hg (by omega) (zof4 hq0 54 (1, 0) rfl)) (by omega) rfl rfl (Nat.le_of_ble_eq_true rfl) (by omega) rfl ⟨by decide, by decide⟩ ?_
  refine z_aastP dX5_init_33 ⟨by omega, (zof4 hq0 1 (23, 30) rfl).2⟩ ⟨by omega, (zof4 hq0 54 (1, 0) rfl).2⟩ (inb_vp rfl) ?_
  refine z_iinc (M := mX5_init) (v := (14 : Int32)) (lv2 := [(1, .int (14 : Int32)), (0, .ref x0)]) dX5_init_34 0 rfl rfl (Nat.le_of_ble_eq_true rfl) rfl ?_
  refine z_goto 15 dX5_init_37 rfl ?_
  refine z_iload_n dX5_init_15 0 rfl ?_
  refine z_bipush (M := mX5_init) (v := 30) dX5_init_16 rfl ?_
  refine z_icmp_ge 40 dX5_init_18 rfl (fun h => absurd h (by decide)) (fun _ => ?_)
  refine z_aload_n dX5_init_21 1 rfl ?_
  refine z_getR (M := mX5_init) (r := (x0 + 1)) dX5_init_22 ⟨by omega, hq0.2⟩ flRX5_11 (by simp [zsr, zclr, zsi, va_up, i_Pt, Nat.add_assoc]) ?_
  refine z_iload_n dX5_init_25 0 rfl ?_
  refine i_new hF hg (by omega) dX5_init_26 zcX2 dfX2 (zof4 hq0 58 (1, 0) rfl) cwRX5_9 ⟨by decide, by decide⟩ ?_
  refine z_dup dX5_init_29 rfl ?_
  refine i_call (M := mX5_init) (n1 := (x0 + 62)) (ms := 38) (cl2 := 61) (sl2 := 720) (Y := mX2_init) (d2 := d - 1) (As := []) (st := [.ref (x0 + 58), .int (14 : Int32), .ref (x0 + 1)]) hF hg (by omega) (zof4 hq0 58 (1, 0) rfl).1 dX5_init_30 (Or.inr nlRX5_17) ck_X2_init (ci_Pt (g := g) (d := d - 1) hg (by omega) (zof4 hq0 58 (1, 0) rfl)) (by omega) rfl rfl (Nat.le_of_ble_eq_true rfl) (by omega) rfl ⟨by decide, by decide⟩ ?_
  refine z_aastP dX5_init_33 ⟨by omega, (zof4 hq0 1 (23, 30) rfl).2⟩ ⟨by omega, (zof4 hq0 58 (1, 0) rfl).2⟩ (inb_vp rfl) ?_
  refine z_iinc (M := mX5_init) (v := (15 : Int32)) (lv2 := [(1, .int (15 : Int32)), (0, .ref x0)]) dX5_init_34 0 rfl rfl (Nat.le_of_ble_eq_true rfl) rfl ?_
  refine z_goto 15 dX5_init_37 rfl ?_
  refine z_iload_n dX5_init_15 0 rfl ?_
  refine z_bipush (M := mX5_init) (v := 30) dX5_init_16 rfl ?_
  refine z_icmp_ge 40 dX5_init_18 rfl (fun h => absurd h (by decide)) (fun _ => ?_)
  refine z_aload_n dX5_init_21 1 rfl ?_
  refine z_getR (M := mX5_init) (r := (x0 + 1)) dX5_init_22 ⟨by omega, hq0.2⟩ flRX5_11 (by simp [zsr, zclr, zsi, va_up, i_Pt, Nat.add_assoc]) ?_
  refine z_iload_n dX5_init_25 0 rfl ?_
  refine i_new hF hg (by omega) dX5_init_26 zcX2 dfX2 (zof4 hq0 62 (1, 0) rfl) cwRX5_9 ⟨by decide, by decide⟩ ?_
  refine z_dup dX5_init_29 rfl ?_
  refine i_call (M := mX5_init) (n1 := (x0 + 66)) (ms := 38) (cl2 := 65) (sl2 := 766) (Y := mX2_init) (d2 := d - 1) (As := []) (st := [.ref (x0 + 62), .int (15 : Int32), .ref (x0 + 1)]) hF hg (by omega) (zof4 hq0 62 (1, 0) rfl).1 dX5_init_30 (Or.inr nlRX5_17) ck_X2_init (ci_Pt (g := g) (d := d - 1) hg (by omega) (zof4 hq0 62 (1, 0) rfl)) (by omega) rfl rfl (Nat.le_of_ble_eq_true rfl) (by omega) rfl ⟨by decide, by decide⟩ ?_
  refine z_aastP dX5_init_33 ⟨by omega, (zof4 hq0 1 (23, 30) rfl).2⟩ ⟨by omega, (zof4 hq0 62 (1, 0) rfl).2⟩ (inb_vp rfl) ?_
  refine z_iinc (M := mX5_init) (v := (16 : Int32)) (lv2 := [(1, .int (16 : Int32)), (0, .ref x0)]) dX5_init_34 0 rfl rfl (Nat.le_of_ble_eq_true rfl) rfl ?_
  refine z_goto 15 dX5_init_37 rfl ?_
  refine z_iload_n dX5_init_15 0 rfl ?_
  refine z_bipush (M := mX5_init) (v := 30) dX5_init_16 rfl ?_
  refine z_icmp_ge 40 dX5_init_18 rfl (fun h => absurd h (by decide)) (fun _ => ?_)
  refine z_aload_n dX5_init_21 1 rfl ?_
  refine z_getR (M := mX5_init) (r := (x0 + 1)) dX5_init_22 ⟨by omega, hq0.2⟩ flRX5_11 (by simp [zsr, zclr, zsi, va_up, i_Pt, Nat.add_assoc]) ?_
  refine z_iload_n dX5_init_25 0 rfl ?_
  refine i_new hF hg (by omega) dX5_init_26 zcX2 dfX2 (zof4 hq0 66 (1, 0) rfl) cwRX5_9 ⟨by decide, by decide⟩ ?_
  refine z_dup dX5_init_29 rfl ?_
  refine i_call (M := mX5_init) (n1 := (x0 + 70)) (ms := 38) (cl2 := 69) (sl2 := 812) (Y := mX2_init) (d2 := d - 1) (As := []) (st := [.ref (x0 + 66), .int (16 : Int32), .ref (x0 + 1)]) hF hg (by omega) (zof4 hq0 66 (1, 0) rfl).1 dX5_init_30 (Or.inr nlRX5_17) ck_X2_init (ci_Pt (g := g) (d := d - 1) hg (by omega) (zof4 hq0 66 (1, 0) rfl)) (by omega) rfl rfl (Nat.le_of_ble_eq_true rfl) (by omega) rfl ⟨by decide, by decide⟩ ?_
  refine z_aastP dX5_init_33 ⟨by omega, (zof4 hq0 1 (23, 30) rfl).2⟩ ⟨by omega, (zof4 hq0 66 (1, 0) rfl).2⟩ (inb_vp rfl) ?_
  refine z_iinc (M := mX5_init) (v := (17 : Int32)) (lv2 := [(1, .int (17 : Int32)), (0, .ref x0)]) dX5_init_34 0 rfl rfl (Nat.le_of_ble_eq_true rfl) rfl ?_
  refine z_goto 15 dX5_init_37 rfl ?_
  refine z_iload_n dX5_init_15 0 rfl ?_
  refine z_bipush (M := mX5_init) (v := 30) dX5_init_16 rfl ?_
  refine z_icmp_ge 40 dX5_init_18 rfl (fun h => absurd h (by decide)) (fun _ => ?_)
  refine z_aload_n dX5_init_21 1 rfl ?_
  refine z_getR (M := mX5_init) (r := (x0 + 1)) dX5_init_22 ⟨by omega, hq0.2⟩ flRX5_11 (by simp [zsr, zclr, zsi, va_up, i_Pt, Nat.add_assoc]) ?_
  refine z_iload_n dX5_init_25 0 rfl ?_
  refine i_new hF hg (by omega) dX5_init_26 zcX2 dfX2 (zof4 hq0 70 (1, 0) rfl) cwRX5_9 ⟨by decide, by decide⟩ ?_
  refine z_dup dX5_init_29 rfl ?_
  refine i_call (M := mX5_init) (n1 := (x0 + 74)) (ms := 38) (cl2 := 73) (sl2 := 858) (Y := mX2_init) (d2 := d - 1) (As := []) (st := [.ref (x0 + 70), .int (17 : Int32), .ref (x0 + 1)]) hF hg (by omega) (zof4 hq0 70 (1, 0) rfl).1 dX5_init_30 (Or.inr nlRX5_17) ck_X2_init (ci_Pt (g := g) (d := d - 1) hg (by omega) (zof4 hq0 70 (1, 0) rfl)) (by omega) rfl rfl (Nat.le_of_ble_eq_true rfl) (by omega) rfl ⟨by decide, by decide⟩ ?_
  refine z_aastP dX5_init_33 ⟨by omega, (zof4 hq0 1 (23, 30) rfl).2⟩ ⟨by omega, (zof4 hq0 70 (1, 0) rfl).2⟩ (inb_vp rfl) ?_
  refine z_iinc (M := mX5_init) (v := (18 : Int32)) (lv2 := [(1, .int (18 : Int32)), (0, .ref x0)]) dX5_init_34 0 rfl rfl (Nat.le_of_ble_eq_true rfl) rfl ?_
  refine z_goto 15 dX5_init_37 rfl ?_
  refine z_iload_n dX5_init_15 0 rfl ?_
  refine z_bipush (M := mX5_init) (v := 30) dX5_init_16 rfl ?_
  refine z_icmp_ge 40 dX5_init_18 rfl (fun h => absurd h (by decide)) (fun _ => ?_)
  refine z_aload_n dX5_init_21 1 rfl ?_
  refine z_getR (M := mX5_init) (r := (x0 + 1)) dX5_init_22 ⟨by omega, hq0.2⟩ flRX5_11 (by simp [zsr, zclr, zsi, va_up, i_Pt, Nat.add_assoc]) ?_
  refine z_iload_n dX5_init_25 0 rfl ?_
  refine i_new hF hg (by omega) dX5_init_26 zcX2 dfX2 (zof4 hq0 74 (1, 0) rfl) cwRX5_9 ⟨by decide, by decide⟩ ?_
  refine z_dup dX5_init_29 rfl ?_
  refine i_call (M := mX5_init) (n1 := (x0 + 78)) (ms := 38) (cl2 := 77) (sl2 := 904) (Y := mX2_init) (d2 := d - 1) (As := []) (st := [.ref (x0 + 74), .int (18 : Int32), .ref (x0 + 1)]) hF hg (by omega) (zof4 hq0 74 (1, 0) rfl).1 dX5_init_30 (Or.inr nlRX5_17) ck_X2_init (ci_Pt (g := g) (d := d - 1) hg (by omega) (zof4 hq0 74 (1, 0) rfl)) (by omega) rfl rfl (Nat.le_of_ble_eq_true rfl) (by omega) rfl ⟨by decide, by decide⟩ ?_
  refine z_aastP dX5_init_33 ⟨by omega, (zof4 hq0 1 (23, 30) rfl).2⟩ ⟨by omega, (zof4 hq0 74 (1, 0) rfl).2⟩ (inb_vp rfl) ?_
  refine z_iinc (M := mX5_init) (v := (19 : Int32)) (lv2 := [(1, .int (19 : Int32)), (0, .ref x0)]) dX5_init_34 0 rfl rfl (Nat.le_of_ble_eq_true rfl) rfl ?_
  refine z_goto 15 dX5_init_37 rfl ?_
  refine z_iload_n dX5_init_15 0 rfl ?_
  refine z_bipush (M := mX5_init) (v := 30) dX5_init_16 rfl ?_
  refine z_icmp_ge 40 dX5_init_18 rfl (fun h => absurd h (by decide)) (fun _ => ?_)
  refine z_aload_n dX5_init_21 1 rfl ?_
  refine z_getR (M := mX5_init) (r := (x0 + 1)) dX5_init_22 ⟨by omega, hq0.2⟩ flRX5_11 (by simp [zsr, zclr, zsi, va_up, i_Pt, Nat.add_assoc]) ?_
  refine z_iload_n dX5_init_25 0 rfl ?_
  refine i_new hF hg (by omega) dX5_init_26 zcX2 dfX2 (zof4 hq0 78 (1, 0) rfl) cwRX5_9 ⟨by decide, by decide⟩ ?_
  refine z_dup dX5_init_29 rfl ?_
  refine i_call (M := mX5_init) (n1 := (x0 + 82)) (ms := 38) (cl2 := 81) (sl2 := 950) (Y := mX2_init) (d2 := d - 1) (As := []) (st := [.ref (x0 + 78), .int (19 : Int32), .ref (x0 + 1)]) hF hg (by omega) (zof4 hq0 78 (1, 0) rfl).1 dX5_init_30 (Or.inr nlRX5_17) ck_X2_init (ci_Pt (g := g) (d := d - 1) hg (by omega) (zof4 hq0 78 (1, 0) rfl)) (by omega) rfl rfl (Nat.le_of_ble_eq_true rfl) (by omega) rfl ⟨by decide, by decide⟩ ?_
  refine z_aastP dX5_init_33 ⟨by omega, (zof4 hq0 1 (23, 30) rfl).2⟩ ⟨by omega, (zof4 hq0 78 (1, 0) rfl).2⟩ (inb_vp rfl) ?_
  refine z_iinc (M := mX5_init) (v := (20 : Int32)) (lv2 := [(1, .int (20 : Int32)), (0, .ref x0)]) dX5_init_34 0 rfl rfl (Nat.le_of_ble_eq_true rfl) rfl ?_
  refine z_goto 15 dX5_init_37 rfl ?_
  refine z_iload_n dX5_init_15 0 rfl ?_
  refine z_bipush (M := mX5_init) (v := 30) dX5_init_16 rfl ?_
  refine z_icmp_ge 40 dX5_init_18 rfl (fun h => absurd h (by decide)) (fun _ => ?_)
  refine z_aload_n dX5_init_21 1 rfl ?_
  refine z_getR (M := mX5_init) (r := (x0 + 1)) dX5_init_22 ⟨by omega, hq0.2⟩ flRX5_11 (by simp [zsr, zclr, zsi, va_up, i_Pt, Nat.add_assoc]) ?_
  refine z_iload_n dX5_init_25 0 rfl ?_
  refine i_new hF hg (by omega) dX5_init_26 zcX2 dfX2 (zof4 hq0 82 (1, 0) rfl) cwRX5_9 ⟨by decide, by decide⟩ ?_
  refine z_dup dX5_init_29 rfl ?_
  refine i_call (M := mX5_init) (n1 := (x0 + 86)) (ms := 38) (cl2 := 85) (sl2 := 996) (Y := mX2_init) (d2 := d - 1) (As := []) (st := [.ref (x0 + 82), .int (20 : Int32), .ref (x0 + 1)]) hF hg (by omega) (zof4 hq0 82 (1, 0) rfl).1 dX5_init_30 (Or.inr nlRX5_17) ck_X2_init (ci_Pt (g := g) (d := d - 1) hg (by omega) (zof4 hq0 82 (1, 0) rfl)) (by omega) rfl rfl (Nat.le_of_ble_eq_true rfl) (by omega) rfl ⟨by decide, by decide⟩ ?_
  refine z_aastP dX5_init_33 ⟨by omega, (zof4 hq0 1 (23, 30) rfl).2⟩ ⟨by omega, (zof4 hq0 82 (1, 0) rfl).2⟩ (inb_vp rfl) ?_
  refine z_iinc (M := mX5_init) (v := (21 : Int32)) (lv2 := [(1, .int (21 : Int32)), (0, .ref x0)]) dX5_init_34 0 rfl rfl (Nat.le_of_ble_eq_true rfl) rfl ?_
  refine z_goto 15 dX5_init_37 rfl ?_
  refine z_iload_n dX5_init_15 0 rfl ?_
  refine z_bipush (M := mX5_init) (v := 30) dX5_init_16 rfl ?_
  refine z_icmp_ge 40 dX5_init_18 rfl (fun h => absurd h (by decide)) (fun _ => ?_)
  refine z_aload_n dX5_init_21 1 rfl ?_
  refine z_getR (M := mX5_init) (r := (x0 + 1)) dX5_init_22 ⟨by omega, hq0.2⟩ flRX5_11 (by simp [zsr, zclr, zsi, va_up, i_Pt, Nat.add_assoc]) ?_
  refine z_iload_n dX5_init_25 0 rfl ?_
  refine i_new hF hg (by omega) dX5_init_26 zcX2 dfX2 (zof4 hq0 86 (1, 0) rfl) cwRX5_9 ⟨by decide, by decide⟩ ?_
  refine z_dup dX5_init_29 rfl ?_
  refine i_call (M := mX5_init) (n1 := (x0 + 90)) (ms := 38) (cl2 := 89) (sl2 := 1042) (Y := mX2_init) (d2 := d - 1) (As := []) (st := [.ref (x0 + 86), .int (21 : Int32), .ref (x0 + 1)]) hF hg (by omega) (zof4 hq0 86 (1, 0) rfl).1 dX5_init_30 (Or.inr nlRX5_17) ck_X2_init (ci_Pt (g := g) (d := d - 1) hg (by omega) (zof4 hq0 86 (1, 0) rfl)) (by omega) rfl rfl (Nat.le_of_ble_eq_true rfl) (by omega) rfl ⟨by decide, by decide⟩ ?_
  refine z_aastP dX5_init_33 ⟨by omega, (zof4 hq0 1 (23, 30) rfl).2⟩ ⟨by omega, (zof4 hq0 86 (1, 0) rfl).2⟩ (inb_vp rfl) ?_
  refine z_iinc (M := mX5_init) (v := (22 : Int32)) (lv2 := [(1, .int (22 : Int32)), (0, .ref x0)]) dX5_init_34 0 rfl rfl (Nat.le_of_ble_eq_true rfl) rfl ?_
  refine z_goto 15 dX5_init_37 rfl ?_
  refine z_iload_n dX5_init_15 0 rfl ?_
  refine z_bipush (M := mX5_init) (v := 30) dX5_init_16 rfl ?_
  refine z_icmp_ge 40 dX5_init_18 rfl (fun h => absurd h (by decide)) (fun _ => ?_)
  refine z_aload_n dX5_init_21 1 rfl ?_
  refine z_getR (M := mX5_init) (r := (x0 + 1)) dX5_init_22 ⟨by omega, hq0.2⟩ flRX5_11 (by simp [zsr, zclr, zsi, va_up, i_Pt, Nat.add_assoc]) ?_
  refine z_iload_n dX5_init_25 0 rfl ?_
  refine i_new hF hg (by omega) dX5_init_26 zcX2 dfX2 (zof4 hq0 90 (1, 0) rfl) cwRX5_9 ⟨by decide, by decide⟩ ?_
  refine z_dup dX5_init_29 rfl ?_
  refine i_call (M := mX5_init) (n1 := (x0 + 94)) (ms := 38) (cl2 := 93) (sl2 := 1088) (Y := mX2_init) (d2 := d - 1) (As := []) (st := [.ref (x0 + 90), .int (22 : Int32), .ref (x0 + 1)]) hF hg (by omega) (zof4 hq0 90 (1, 0) rfl).1 dX5_init_30 (Or.inr nlRX5_17) ck_X2_init (ci_Pt (g := g) (d := d - 1) hg (by omega) (zof4 hq0 90 (1, 0) rfl)) (by omega) rfl rfl (Nat.le_of_ble_eq_true rfl) (by omega) rfl ⟨by decide, by decide⟩ ?_
  refine z_aastP dX5_init_33 ⟨by omega, (zof4 hq0 1 (23, 30) rfl).2⟩ ⟨by omega, (zof4 hq0 90 (1, 0) rfl).2⟩ (inb_vp rfl) ?_
  refine z_iinc (M := mX5_init) (v := (23 : Int32)) (lv2 := [(1, .int (23 : Int32)), (0, .ref x0)]) dX5_init_34 0 rfl rfl (Nat.le_of_ble_eq_true rfl) rfl ?_
  refine z_goto 15 dX5_init_37 rfl ?_
  refine z_iload_n dX5_init_15 0 rfl ?_
  refine z_bipush (M := mX5_init) (v := 30) dX5_init_16 rfl ?_
  refine z_icmp_ge 40 dX5_init_18 rfl (fun h => absurd h (by decide)) (fun _ => ?_)
  refine z_aload_n dX5_init_21 1 rfl ?_
  refine z_getR (M := mX5_init) (r := (x0 + 1)) dX5_init_22 ⟨by omega, hq0.2⟩ flRX5_11 (by simp [zsr, zclr, zsi, va_up, i_Pt, Nat.add_assoc]) ?_
  refine z_iload_n dX5_init_25 0 rfl ?_
  refine i_new hF hg (by omega) dX5_init_26 zcX2 dfX2 (zof4 hq0 94 (1, 0) rfl) cwRX5_9 ⟨by decide, by decide⟩ ?_
  refine z_dup dX5_init_29 rfl ?_
  refine i_call (M := mX5_init) (n1 := (x0 + 98)) (ms := 38) (cl2 := 97) (sl2 := 1134) (Y := mX2_init) (d2 := d - 1) (As := []) (st := [.ref (x0 + 94), .int (23 : Int32), .ref (x0 + 1)]) hF hg (by omega) (zof4 hq0 94 (1, 0) rfl).1 dX5_init_30 (Or.inr nlRX5_17) ck_X2_init (ci_Pt (g := g) (d := d - 1) hg (by omega) (zof4 hq0 94 (1, 0) rfl)) (by omega) rfl rfl (Nat.le_of_ble_eq_true rfl) (by omega) rfl ⟨by decide, by decide⟩ ?_
  refine z_aastP dX5_init_33 ⟨by omega, (zof4 hq0 1 (23, 30) rfl).2⟩ ⟨by omega, (zof4 hq0 94 (1, 0) rfl).2⟩ (inb_vp rfl) ?_
  refine z_iinc (M := mX5_init) (v := (24 : Int32)) (lv2 := [(1, .int (24 : Int32)), (0, .ref x0)]) dX5_init_34 0 rfl rfl (Nat.le_of_ble_eq_true rfl) rfl ?_
  refine z_goto 15 dX5_init_37 rfl ?_
  refine z_iload_n dX5_init_15 0 rfl ?_
  refine z_bipush (M := mX5_init) (v := 30) dX5_init_16 rfl ?_
  refine z_icmp_ge 40 dX5_init_18 rfl (fun h => absurd h (by decide)) (fun _ => ?_)
  refine z_aload_n dX5_init_21 1 rfl ?_
  refine z_getR (M := mX5_init) (r := (x0 + 1)) dX5_init_22 ⟨by omega, hq0.2⟩ flRX5_11 (by simp [zsr, zclr, zsi, va_up, i_Pt, Nat.add_assoc]) ?_
  refine z_iload_n dX5_init_25 0 rfl ?_
  refine i_new hF hg (by omega) dX5_init_26 zcX2 dfX2 (zof4 hq0 98 (1, 0) rfl) cwRX5_9 ⟨by decide, by decide⟩ ?_
  refine z_dup dX5_init_29 rfl ?_
  refine i_call (M := mX5_init) (n1 := (x0 + 102)) (ms := 38) (cl2 := 101) (sl2 := 1180) (Y := mX2_init) (d2 := d - 1) (As := []) (st := [.ref (x0 + 98), .int (24 : Int32), .ref (x0 + 1)]) hF hg (by omega) (zof4 hq0 98 (1, 0) rfl).1 dX5_init_30 (Or.inr nlRX5_17) ck_X2_init (ci_Pt (g := g) (d := d - 1) hg (by omega) (zof4 hq0 98 (1, 0) rfl)) (by omega) rfl rfl (Nat.le_of_ble_eq_true rfl) (by omega) rfl ⟨by decide, by decide⟩ ?_
  refine z_aastP dX5_init_33 ⟨by omega, (zof4 hq0 1 (23, 30) rfl).2⟩ ⟨by omega, (zof4 hq0 98 (1, 0) rfl).2⟩ (inb_vp rfl) ?_
  refine z_iinc (M := mX5_init) (v := (25 : Int32)) (lv2 := [(1, .int (25 : Int32)), (0, .ref x0)]) dX5_init_34 0 rfl rfl (Nat.le_of_ble_eq_true rfl) rfl ?_
  refine z_goto 15 dX5_init_37 rfl ?_
  refine z_iload_n dX5_init_15 0 rfl ?_
  refine z_bipush (M := mX5_init) (v := 30) dX5_init_16 rfl ?_
  refine z_icmp_ge 40 dX5_init_18 rfl (fun h => absurd h (by decide)) (fun _ => ?_)
  refine z_aload_n dX5_init_21 1 rfl ?_
  refine z_getR (M := mX5_init) (r := (x0 + 1)) dX5_init_22 ⟨by omega, hq0.2⟩ flRX5_11 (by simp [zsr, zclr, zsi, va_up, i_Pt, Nat.add_assoc]) ?_
  refine z_iload_n dX5_init_25 0 rfl ?_
  refine i_new hF hg (by omega) dX5_init_26 zcX2 dfX2 (zof4 hq0 102 (1, 0) rfl) cwRX5_9 ⟨by decide, by decide⟩ ?_
  refine z_dup dX5_init_29 rfl ?_
  refine i_call (M := mX5_init) (n1 := (x0 + 106)) (ms := 38) (cl2 := 105) (sl2 := 1226) (Y := mX2_init) (d2 := d - 1) (As := []) (st := [.ref (x0 + 102), .int (25 : Int32), .ref (x0 + 1)]) hF hg (by omega) (zof4 hq0 102 (1, 0) rfl).1 dX5_init_30 (Or.inr nlRX5_17) ck_X2_init (ci_Pt (g := g) (d := d - 1) hg (by omega) (zof4 hq0 102 (1, 0) rfl)) (by omega) rfl rfl (Nat.le_of_ble_eq_true rfl) (by omega) rfl ⟨by decide, by decide⟩ ?_
  refine z_aastP dX5_init_33 ⟨by omega, (zof4 hq0 1 (23, 30) rfl).2⟩ ⟨by omega, (zof4 hq0 102 (1, 0) rfl).2⟩ (inb_vp rfl) ?_
  refine z_iinc (M := mX5_init) (v := (26 : Int32)) (lv2 := [(1, .int (26 : Int32)), (0, .ref x0)]) dX5_init_34 0 rfl rfl (Nat.le_of_ble_eq_true rfl) rfl ?_
  refine z_goto 15 dX5_init_37 rfl ?_
  refine z_iload_n dX5_init_15 0 rfl ?_
  refine z_bipush (M := mX5_init) (v := 30) dX5_init_16 rfl ?_
  refine z_icmp_ge 40 dX5_init_18 rfl (fun h => absurd h (by decide)) (fun _ => ?_)
  refine z_aload_n dX5_init_21 1 rfl ?_
  refine z_getR (M := mX5_init) (r := (x0 + 1)) dX5_init_22 ⟨by omega, hq0.2⟩ flRX5_11 (by simp [zsr, zclr, zsi, va_up, i_Pt, Nat.add_assoc]) ?_
  refine z_iload_n dX5_init_25 0 rfl ?_
  refine i_new hF hg (by omega) dX5_init_26 zcX2 dfX2 (zof4 hq0 106 (1, 0) rfl) cwRX5_9 ⟨by decide, by decide⟩ ?_
  refine z_dup dX5_init_29 rfl ?_
  refine i_call (M := mX5_init) (n1 := (x0 + 110)) (ms := 38) (cl2 := 109) (sl2 := 1272) (Y := mX2_init) (d2 := d - 1) (As := []) (st := [.ref (x0 + 106), .int (26 : Int32), .ref (x0 + 1)]) hF hg (by omega) (zof4 hq0 106 (1, 0) rfl).1 dX5_init_30 (Or.inr nlRX5_17) ck_X2_init (ci_Pt (g := g) (d := d - 1) hg (by omega) (zof4 hq0 106 (1, 0) rfl)) (by omega) rfl rfl (Nat.le_of_ble_eq_true rfl) (by omega) rfl ⟨by decide, by decide⟩ ?_
  refine z_aastP dX5_init_33 ⟨by omega, (zof4 hq0 1 (23, 30) rfl).2⟩ ⟨by omega, (zof4 hq0 106 (1, 0) rfl).2⟩ (inb_vp rfl) ?_
  refine z_iinc (M := mX5_init) (v := (27 : Int32)) (lv2 := [(1, .int (27 : Int32)), (0, .ref x0)]) dX5_init_34 0 rfl rfl (Nat.le_of_ble_eq_true rfl) rfl ?_
  refine z_goto 15 dX5_init_37 rfl ?_
  refine z_iload_n dX5_init_15 0 rfl ?_
  refine z_bipush (M := mX5_init) (v := 30) dX5_init_16 rfl ?_
  refine z_icmp_ge 40 dX5_init_18 rfl (fun h => absurd h (by decide)) (fun _ => ?_)
  refine z_aload_n dX5_init_21 1 rfl ?_
  refine z_getR (M := mX5_init) (r := (x0 + 1)) dX5_init_22 ⟨by omega, hq0.2⟩ flRX5_11 (by simp [zsr, zclr, zsi, va_up, i_Pt, Nat.add_assoc]) ?_
  refine z_iload_n dX5_init_25 0 rfl ?_
  refine i_new hF hg (by omega) dX5_init_26 zcX2 dfX2 (zof4 hq0 110 (1, 0) rfl) cwRX5_9 ⟨by decide, by decide⟩ ?_
  refine z_dup dX5_init_29 rfl ?_
  refine i_call (M := mX5_init) (n1 := (x0 + 114)) (ms := 38) (cl2 := 113) (sl2 := 1318) (Y := mX2_init) (d2 := d - 1) (As := []) (st := [.ref (x0 + 110), .int (27 : Int32), .ref (x0 + 1)]) hF hg (by omega) (zof4 hq0 110 (1, 0) rfl).1 dX5_init_30 (Or.inr nlRX5_17) ck_X2_init (ci_Pt (g := g) (d := d - 1) hg (by omega) (zof4 hq0 110 (1, 0) rfl)) (by omega) rfl rfl (Nat.le_of_ble_eq_true rfl) (by omega) rfl ⟨by decide, by decide⟩ ?_
  refine z_aastP dX5_init_33 ⟨by omega, (zof4 hq0 1 (23, 30) rfl).2⟩ ⟨by omega, (zof4 hq0 110 (1, 0) rfl).2⟩ (inb_vp rfl) ?_
  refine z_iinc (M := mX5_init) (v := (28 : Int32)) (lv2 := [(1, .int (28 : Int32)), (0, .ref x0)]) dX5_init_34 0 rfl rfl (Nat.le_of_ble_eq_true rfl) rfl ?_
  refine z_goto 15 dX5_init_37 rfl ?_
  refine z_iload_n dX5_init_15 0 rfl ?_
  refine z_bipush (M := mX5_init) (v := 30) dX5_init_16 rfl ?_
  refine z_icmp_ge 40 dX5_init_18 rfl (fun h => absurd h (by decide)) (fun _ => ?_)
  refine z_aload_n dX5_init_21 1 rfl ?_
  refine z_getR (M := mX5_init) (r := (x0 + 1)) dX5_init_22 ⟨by omega, hq0.2⟩ flRX5_11 (by simp [zsr, zclr, zsi, va_up, i_Pt, Nat.add_assoc]) ?_
  refine z_iload_n dX5_init_25 0 rfl ?_
  refine i_new hF hg (by omega) dX5_init_26 zcX2 dfX2 (zof4 hq0 114 (1, 0) rfl) cwRX5_9 ⟨by decide, by decide⟩ ?_
  refine z_dup dX5_init_29 rfl ?_
  refine i_call (M := mX5_init) (n1 := (x0 + 118)) (ms := 38) (cl2 := 117) (sl2 := 1364) (Y := mX2_init) (d2 := d - 1) (As := []) (st := [.ref (x0 + 114), .int (28 : Int32), .ref (x0 + 1)]) hF hg (by omega) (zof4 hq0 114 (1, 0) rfl).1 dX5_init_30 (Or.inr nlRX5_17) ck_X2_init (ci_Pt (g := g) (d := d - 1) hg (by omega) (zof4 hq0 114 (1, 0) rfl)) (by omega) rfl rfl (Nat.le_of_ble_eq_true rfl) (by omega) rfl ⟨by decide, by decide⟩ ?_
  refine z_aastP dX5_init_33 ⟨by omega, (zof4 hq0 1 (23, 30) rfl).2⟩ ⟨by omega, (zof4 hq0 114 (1, 0) rfl).2⟩ (inb_vp rfl) ?_
  refine z_iinc (M := mX5_init) (v := (29 : Int32)) (lv2 := [(1, .int (29 : Int32)), (0, .ref x0)]) dX5_init_34 0 rfl rfl (Nat.le_of_ble_eq_true rfl) rfl ?_
  refine z_goto 15 dX5_init_37 rfl ?_
  refine z_iload_n dX5_init_15 0 rfl ?_
  refine z_bipush (M := mX5_init) (v := 30) dX5_init_16 rfl ?_
  refine z_icmp_ge 40 dX5_init_18 rfl (fun h => absurd h (by decide)) (fun _ => ?_)
  refine z_aload_n dX5_init_21 1 rfl ?_
  refine z_getR (M := mX5_init) (r := (x0 + 1)) dX5_init_22 ⟨by omega, hq0.2⟩ flRX5_11 (by simp [zsr, zclr, zsi, va_up, i_Pt, Nat.add_assoc]) ?_
  refine z_iload_n dX5_init_25 0 rfl ?_
  refine i_new hF hg (by omega) dX5_init_26 zcX2 dfX2 (zof4 hq0 118 (1, 0) rfl) cwRX5_9 ⟨by decide, by decide⟩ ?_
  refine z_dup dX5_init_29 rfl ?_
  refine i_call (M := mX5_init) (n1 := (x0 + 122)) (ms := 38) (cl2 := 121) (sl2 := 1410) (Y := mX2_init) (d2 := d - 1) (As := []) (st := [.ref (x0 + 118), .int (29 : Int32), .ref (x0 + 1)]) hF hg (by omega) (zof4 hq0 118 (1, 0) rfl).1 dX5_init_30 (Or.inr nlRX5_17) ck_X2_init (ci_Pt (g := g) (d := d - 1) hg (by omega) (zof4 hq0 118 (1, 0) rfl)) (by omega) rfl rfl (Nat.le_of_ble_eq_true rfl) (by omega) rfl ⟨by decide, by decide⟩ ?_
  refine z_aastP dX5_init_33 ⟨by omega, (zof4 hq0 1 (23, 30) rfl).2⟩ ⟨by omega, (zof4 hq0 118 (1, 0) rfl).2⟩ (inb_vp rfl) ?_
  refine z_iinc (M := mX5_init) (v := (30 : Int32)) (lv2 := [(1, .int (30 : Int32)), (0, .ref x0)]) dX5_init_34 0 rfl rfl (Nat.le_of_ble_eq_true rfl) rfl ?_
  refine z_goto 15 dX5_init_37 rfl ?_
  refine z_iload_n dX5_init_15 0 rfl ?_
  refine z_bipush (M := mX5_init) (v := 30) dX5_init_16 rfl ?_
  refine z_icmp_ge 40 dX5_init_18 rfl (fun _ => ?_) (fun h => absurd (by decide) h)
  exact i_ret dX5_init_40 rfl (by omega) (fun _ _ => rfl)
-- FuseMinutes$Store
theorem dX6_init_0 : decode cX6_init 0 = .ok (.aload_n 0, 1) := by decide +kernel
theorem dX6_init_1 : decode cX6_init 1 = .ok (.invokespecial 3, 3) := by decide +kernel
theorem dX6_init_4 : decode cX6_init 4 = .ok (.aload_n 0, 1) := by decide +kernel
theorem dX6_init_5 : decode cX6_init 5 = .ok (.new 9, 3) := by decide +kernel
theorem dX6_init_8 : decode cX6_init 8 = .ok (.dup, 1) := by decide +kernel
theorem dX6_init_9 : decode cX6_init 9 = .ok (.invokespecial 11, 3) := by decide +kernel
theorem dX6_init_12 : decode cX6_init 12 = .ok (.putfield 12, 3) := by decide +kernel
theorem dX6_init_15 : decode cX6_init 15 = .ok (.aload_n 0, 1) := by decide +kernel
theorem dX6_init_16 : decode cX6_init 16 = .ok (.new 18, 3) := by decide +kernel
theorem dX6_init_19 : decode cX6_init 19 = .ok (.dup, 1) := by decide +kernel
theorem dX6_init_20 : decode cX6_init 20 = .ok (.invokespecial 20, 3) := by decide +kernel
theorem dX6_init_23 : decode cX6_init 23 = .ok (.putfield 21, 3) := by decide +kernel
theorem dX6_init_26 : decode cX6_init 26 = .ok (.aload_n 0, 1) := by decide +kernel
theorem dX6_init_27 : decode cX6_init 27 = .ok (.iconst 4, 1) := by decide +kernel
theorem dX6_init_28 : decode cX6_init 28 = .ok (.newarray .int, 2) := by decide +kernel
theorem dX6_init_30 : decode cX6_init 30 = .ok (.putfield 25, 3) := by decide +kernel
theorem dX6_init_33 : decode cX6_init 33 = .ok (.aload_n 0, 1) := by decide +kernel
theorem dX6_init_34 : decode cX6_init 34 = .ok (.iconst 4, 1) := by decide +kernel
theorem dX6_init_35 : decode cX6_init 35 = .ok (.newarray .int, 2) := by decide +kernel
theorem dX6_init_37 : decode cX6_init 37 = .ok (.putfield 29, 3) := by decide +kernel
theorem dX6_init_40 : decode cX6_init 40 = .ok (.aload_n 0, 1) := by decide +kernel
theorem dX6_init_41 : decode cX6_init 41 = .ok (.iconst 2, 1) := by decide +kernel
theorem dX6_init_42 : decode cX6_init 42 = .ok (.putfield 32, 3) := by decide +kernel
theorem dX6_init_45 : decode cX6_init 45 = .ok (.aload_n 0, 1) := by decide +kernel
theorem dX6_init_46 : decode cX6_init 46 = .ok (.iconst (-1), 1) := by decide +kernel
theorem dX6_init_47 : decode cX6_init 47 = .ok (.putfield 36, 3) := by decide +kernel
theorem dX6_init_50 : decode cX6_init 50 = .ok (.aload_n 0, 1) := by decide +kernel
theorem dX6_init_51 : decode cX6_init 51 = .ok (.new 39, 3) := by decide +kernel
theorem dX6_init_54 : decode cX6_init 54 = .ok (.dup, 1) := by decide +kernel
theorem dX6_init_55 : decode cX6_init 55 = .ok (.iconst 4, 1) := by decide +kernel
theorem dX6_init_56 : decode cX6_init 56 = .ok (.invokespecial 41, 3) := by decide +kernel
theorem dX6_init_59 : decode cX6_init 59 = .ok (.putfield 44, 3) := by decide +kernel
theorem dX6_init_62 : decode cX6_init 62 = .ok (.aload_n 0, 1) := by decide +kernel
theorem dX6_init_63 : decode cX6_init 63 = .ok (.new 39, 3) := by decide +kernel
theorem dX6_init_66 : decode cX6_init 66 = .ok (.dup, 1) := by decide +kernel
theorem dX6_init_67 : decode cX6_init 67 = .ok (.bipush 8, 2) := by decide +kernel
theorem dX6_init_69 : decode cX6_init 69 = .ok (.invokespecial 41, 3) := by decide +kernel
theorem dX6_init_72 : decode cX6_init 72 = .ok (.putfield 48, 3) := by decide +kernel
theorem dX6_init_75 : decode cX6_init 75 = .ok (.aload_n 0, 1) := by decide +kernel
theorem dX6_init_76 : decode cX6_init 76 = .ok (.new 39, 3) := by decide +kernel
theorem dX6_init_79 : decode cX6_init 79 = .ok (.dup, 1) := by decide +kernel
theorem dX6_init_80 : decode cX6_init 80 = .ok (.bipush 8, 2) := by decide +kernel
theorem dX6_init_82 : decode cX6_init 82 = .ok (.invokespecial 41, 3) := by decide +kernel
theorem dX6_init_85 : decode cX6_init 85 = .ok (.putfield 51, 3) := by decide +kernel
theorem dX6_init_88 : decode cX6_init 88 = .ok (.return_, 1) := by decide +kernel
def i_So (μ : Mm) (x0 : Nat) : Mm := (zsr (i_To (zclr (zsr (i_To (zclr (zsr (i_To (zclr (zsi (zsi (zsr (zclr (zsr (zclr (zsr (i_St (zclr (zsr (i_Pt (zclr μ (x0 + 1)) (x0 + 1)) x0 0 (some (x0 + 1))) (x0 + 5)) (x0 + 5)) x0 1 (some (x0 + 5))) (x0 + 127)) x0 2 (some (x0 + 127))) (x0 + 128)) x0 3 (some (x0 + 128))) x0 5 (2 : Int32)) x0 7 (-1 : Int32)) (x0 + 129)) (x0 + 129)) x0 8 (some (x0 + 129))) (x0 + 131)) (x0 + 131)) x0 9 (some (x0 + 131))) (x0 + 133)) (x0 + 133)) x0 10 (some (x0 + 133)))
set_option maxRecDepth 100000 in
set_option maxHeartbeats 4000000 in
theorem ci_So {g : GG} {d : Nat} {x0 : Nat} {μ : Mm} (hg : zG g) (hd0 : 3 ≤ d) (hq0 : zk 333 x0 (5, 0)) : CtI g d mX6_init (x0 + 1) (x0 + 135) 1493 [.ref x0] μ (i_So μ x0) := by
  have hF : zvac g (x0 + 1) (zFI g (x0 + 1) (x0 + 135) 1493 (i_So μ x0)) := zFI_vac
  refine i_entry (mc := 134) (lv := [(0, .ref x0)]) in_X6_init (Nat.le_of_ble_eq_true rfl) rfl (by omega) ?_
  refine z_aload_n dX6_init_0 0 rfl ?_
  refine z_obj dX6_init_1 (obw obRX6) (by omega) (Nat.le_of_ble_eq_true rfl) ?_
  refine z_aload_n dX6_init_4 0 rfl ?_
  refine i_new hF hg (by omega) dX6_init_5 zcX2 dfX2 (zof5 hq0 1 (1, 0) rfl) cwRX6_9 ⟨by decide, by decide⟩ ?_
  refine z_dup dX6_init_8 rfl ?_
  refine i_call (M := mX6_init) (n1 := (x0 + 5)) (ms := 38) (cl2 := 4) (sl2 := 46) (Y := mX2_init) (d2 := d - 1) (As := []) (st := [.ref (x0 + 1), .ref x0]) hF hg (by omega) (zof5 hq0 1 (1, 0) rfl).1 dX6_init_9 (Or.inr nlRX6_11) ck_X2_init (ci_Pt (g := g) (d := d - 1) hg (by omega) (zof5 hq0 1 (1, 0) rfl)) (by omega) rfl rfl (Nat.le_of_ble_eq_true rfl) (by omega) rfl ⟨by decide, by decide⟩ ?_
  refine z_putRF dX6_init_12 ⟨by omega, hq0.2⟩ flRX6_12 rfl rfl (fun _ => ⟨rfl, rfl⟩) ?_
  refine z_aload_n dX6_init_15 0 rfl ?_
  refine i_new hF hg (by omega) dX6_init_16 zcX5 dfX5 (zof5 hq0 5 (4, 0) rfl) cwRX6_18 ⟨by decide, by decide⟩ ?_
  refine z_dup dX6_init_19 rfl ?_
  refine i_call (M := mX6_init) (n1 := (x0 + 127)) (ms := 1410) (cl2 := 126) (sl2 := 1459) (Y := mX5_init) (d2 := d - 1) (As := []) (st := [.ref (x0 + 5), .ref x0]) hF hg (by omega) (zof5 hq0 5 (4, 0) rfl).1 dX6_init_20 (Or.inl mlRX6_20) ck_X5_init (ci_St (g := g) (d := d - 1) hg (by omega) (zof5 hq0 5 (4, 0) rfl)) (by omega) rfl rfl (Nat.le_of_ble_eq_true rfl) (by omega) rfl ⟨by decide, by decide⟩ ?_
  refine z_putRF dX6_init_23 ⟨by omega, hq0.2⟩ flRX6_21 rfl rfl (fun _ => ⟨rfl, rfl⟩) ?_
  refine z_aload_n dX6_init_26 0 rfl ?_
  refine z_iconst (M := mX6_init) (v := 4) dX6_init_27 rfl ?_
  refine i_newaI hF hg (by omega) dX6_init_28 (zof5 hq0 127 (20, 4) rfl) ⟨by decide, rfl, by decide⟩ arc_int ⟨by decide, by decide⟩ ?_
  refine z_putRF dX6_init_30 ⟨by omega, hq0.2⟩ flRX6_25 rfl rfl (fun _ => ⟨rfl, rfl⟩) ?_
  refine z_aload_n dX6_init_33 0 rfl ?_
  refine z_iconst (M := mX6_init) (v := 4) dX6_init_34 rfl ?_
  refine i_newaI hF hg (by omega) dX6_init_35 (zof5 hq0 128 (20, 4) rfl) ⟨by decide, rfl, by decide⟩ arc_int ⟨by decide, by decide⟩ ?_
  refine z_putRF dX6_init_37 ⟨by omega, hq0.2⟩ flRX6_29 rfl rfl (fun _ => ⟨rfl, rfl⟩) ?_
  refine z_aload_n dX6_init_40 0 rfl ?_
  refine z_iconst (M := mX6_init) (v := 2) dX6_init_41 rfl ?_
  refine z_putI dX6_init_42 ⟨by omega, hq0.2⟩ flRX6_32 ⟨rfl, rfl⟩ ?_
  refine z_aload_n dX6_init_45 0 rfl ?_
  refine z_iconst (M := mX6_init) (v := -1) dX6_init_46 rfl ?_
  refine z_putI dX6_init_47 ⟨by omega, hq0.2⟩ flRX6_36 ⟨rfl, rfl⟩ ?_
  refine z_aload_n dX6_init_50 0 rfl ?_
  refine i_new hF hg (by omega) dX6_init_51 zcX10 dfX10 (zof5 hq0 129 (8, 0) rfl) cwRX6_39 ⟨by decide, by decide⟩ ?_
  refine z_dup dX6_init_54 rfl ?_
  refine z_iconst (M := mX6_init) (v := 4) dX6_init_55 rfl ?_
  refine i_call (M := mX6_init) (n1 := (x0 + 131)) (ms := 4) (cl2 := 130) (sl2 := 1473) (Y := mX10_init) (d2 := d - 1) (As := [.int (4 : Int32)]) (st := [.ref (x0 + 129), .ref x0]) hF hg (by omega) (zof5 hq0 129 (8, 0) rfl).1 dX6_init_56 (Or.inl mlRX6_41) ck_X10_init (ci_To4 (g := g) (d := d - 1) hg (by omega) (zof5 hq0 129 (8, 0) rfl) (zof5 hq0 130 (20, 4) rfl)) (by omega) rfl rfl (Nat.le_of_ble_eq_true rfl) (by omega) rfl ⟨by decide, by decide⟩ ?_
  refine z_putRF dX6_init_59 ⟨by omega, hq0.2⟩ flRX6_44 rfl rfl (fun _ => ⟨rfl, rfl⟩) ?_
  refine z_aload_n dX6_init_62 0 rfl ?_
  refine i_new hF hg (by omega) dX6_init_63 zcX10 dfX10 (zof5 hq0 131 (8, 0) rfl) cwRX6_39 ⟨by decide, by decide⟩ ?_
  refine z_dup dX6_init_66 rfl ?_
  refine z_bipush (M := mX6_init) (v := 8) dX6_init_67 rfl ?_
  refine i_call (M := mX6_init) (n1 := (x0 + 133)) (ms := 8) (cl2 := 132) (sl2 := 1483) (Y := mX10_init) (d2 := d - 1) (As := [.int (8 : Int32)]) (st := [.ref (x0 + 131), .ref x0]) hF hg (by omega) (zof5 hq0 131 (8, 0) rfl).1 dX6_init_69 (Or.inl mlRX6_41) ck_X10_init (ci_To8 (g := g) (d := d - 1) hg (by omega) (zof5 hq0 131 (8, 0) rfl) (zof5 hq0 132 (20, 8) rfl)) (by omega) rfl rfl (Nat.le_of_ble_eq_true rfl) (by omega) rfl ⟨by decide, by decide⟩ ?_
  refine z_putRF dX6_init_72 ⟨by omega, hq0.2⟩ flRX6_48 rfl rfl (fun _ => ⟨rfl, rfl⟩) ?_
  refine z_aload_n dX6_init_75 0 rfl ?_
  refine i_new hF hg (by omega) dX6_init_76 zcX10 dfX10 (zof5 hq0 133 (8, 0) rfl) cwRX6_39 ⟨by decide, by decide⟩ ?_
  refine z_dup dX6_init_79 rfl ?_
  refine z_bipush (M := mX6_init) (v := 8) dX6_init_80 rfl ?_
  refine i_call (M := mX6_init) (n1 := (x0 + 135)) (ms := 8) (cl2 := 134) (sl2 := 1493) (Y := mX10_init) (d2 := d - 1) (As := [.int (8 : Int32)]) (st := [.ref (x0 + 133), .ref x0]) hF hg (by omega) (zof5 hq0 133 (8, 0) rfl).1 dX6_init_82 (Or.inl mlRX6_41) ck_X10_init (ci_To8 (g := g) (d := d - 1) hg (by omega) (zof5 hq0 133 (8, 0) rfl) (zof5 hq0 134 (20, 8) rfl)) (by omega) rfl rfl (Nat.le_of_ble_eq_true rfl) (by omega) rfl ⟨by decide, by decide⟩ ?_
  refine z_putRF dX6_init_85 ⟨by omega, hq0.2⟩ flRX6_51 rfl rfl (fun _ => ⟨rfl, rfl⟩) ?_
  exact i_ret dX6_init_88 rfl (by omega) (fun _ _ => rfl)
-- FuseMinutes$Text
theorem dX9_init_0 : decode cX9_init 0 = .ok (.aload_n 0, 1) := by decide +kernel
theorem dX9_init_1 : decode cX9_init 1 = .ok (.invokespecial 3, 3) := by decide +kernel
theorem dX9_init_4 : decode cX9_init 4 = .ok (.aload_n 0, 1) := by decide +kernel
theorem dX9_init_5 : decode cX9_init 5 = .ok (.bipush 24, 2) := by decide +kernel
theorem dX9_init_7 : decode cX9_init 7 = .ok (.newarray .int, 2) := by decide +kernel
theorem dX9_init_9 : decode cX9_init 9 = .ok (.putfield 9, 3) := by decide +kernel
theorem dX9_init_12 : decode cX9_init 12 = .ok (.aload_n 0, 1) := by decide +kernel
theorem dX9_init_13 : decode cX9_init 13 = .ok (.bipush 24, 2) := by decide +kernel
theorem dX9_init_15 : decode cX9_init 15 = .ok (.newarray .int, 2) := by decide +kernel
theorem dX9_init_17 : decode cX9_init 17 = .ok (.putfield 15, 3) := by decide +kernel
theorem dX9_init_20 : decode cX9_init 20 = .ok (.aload_n 0, 1) := by decide +kernel
theorem dX9_init_21 : decode cX9_init 21 = .ok (.bipush 24, 2) := by decide +kernel
theorem dX9_init_23 : decode cX9_init 23 = .ok (.newarray .int, 2) := by decide +kernel
theorem dX9_init_25 : decode cX9_init 25 = .ok (.putfield 18, 3) := by decide +kernel
theorem dX9_init_28 : decode cX9_init 28 = .ok (.aload_n 0, 1) := by decide +kernel
theorem dX9_init_29 : decode cX9_init 29 = .ok (.sipush 300, 3) := by decide +kernel
theorem dX9_init_32 : decode cX9_init 32 = .ok (.newarray .int, 2) := by decide +kernel
theorem dX9_init_34 : decode cX9_init 34 = .ok (.putfield 21, 3) := by decide +kernel
theorem dX9_init_37 : decode cX9_init 37 = .ok (.aload_n 0, 1) := by decide +kernel
theorem dX9_init_38 : decode cX9_init 38 = .ok (.iconst 2, 1) := by decide +kernel
theorem dX9_init_39 : decode cX9_init 39 = .ok (.newarray .int, 2) := by decide +kernel
theorem dX9_init_41 : decode cX9_init 41 = .ok (.putfield 24, 3) := by decide +kernel
theorem dX9_init_44 : decode cX9_init 44 = .ok (.aload_n 0, 1) := by decide +kernel
theorem dX9_init_45 : decode cX9_init 45 = .ok (.iconst 2, 1) := by decide +kernel
theorem dX9_init_46 : decode cX9_init 46 = .ok (.newarray .int, 2) := by decide +kernel
theorem dX9_init_48 : decode cX9_init 48 = .ok (.putfield 27, 3) := by decide +kernel
theorem dX9_init_51 : decode cX9_init 51 = .ok (.return_, 1) := by decide +kernel
def i_Tx (μ : Mm) (x0 : Nat) : Mm := (zsr (zclr (zsr (zclr (zsr (zclr (zsr (zclr (zsr (zclr (zsr (zclr μ (x0 + 1)) x0 0 (some (x0 + 1))) (x0 + 2)) x0 1 (some (x0 + 2))) (x0 + 3)) x0 2 (some (x0 + 3))) (x0 + 4)) x0 4 (some (x0 + 4))) (x0 + 5)) x0 6 (some (x0 + 5))) (x0 + 6)) x0 7 (some (x0 + 6)))
set_option maxRecDepth 100000 in
set_option maxHeartbeats 4000000 in
theorem ci_Tx {g : GG} {d : Nat} {x0 : Nat} {μ : Mm} (hg : zG g) (hd0 : 1 ≤ d) (hq0 : zk 333 x0 (7, 0)) : CtI g d mX9_init (x0 + 1) (x0 + 7) 376 [.ref x0] μ (i_Tx μ x0) := by
  have hF : zvac g (x0 + 1) (zFI g (x0 + 1) (x0 + 7) 376 (i_Tx μ x0)) := zFI_vac
  refine i_entry (mc := 6) (lv := [(0, .ref x0)]) in_X9_init (Nat.le_of_ble_eq_true rfl) rfl (by omega) ?_
  refine z_aload_n dX9_init_0 0 rfl ?_
  refine z_obj dX9_init_1 (obw obRX9) (by omega) (Nat.le_of_ble_eq_true rfl) ?_
  refine z_aload_n dX9_init_4 0 rfl ?_
  refine z_bipush (M := mX9_init) (v := 24) dX9_init_5 rfl ?_
  refine i_newaI hF hg (by omega) dX9_init_7 (zof7 hq0 1 (20, 24) rfl) ⟨by decide, rfl, by decide⟩ arc_int ⟨by decide, by decide⟩ ?_
  refine z_putRF dX9_init_9 ⟨by omega, hq0.2⟩ flRX9_9 rfl rfl (fun _ => ⟨rfl, rfl⟩) ?_
  refine z_aload_n dX9_init_12 0 rfl ?_
  refine z_bipush (M := mX9_init) (v := 24) dX9_init_13 rfl ?_
  refine i_newaI hF hg (by omega) dX9_init_15 (zof7 hq0 2 (20, 24) rfl) ⟨by decide, rfl, by decide⟩ arc_int ⟨by decide, by decide⟩ ?_
  refine z_putRF dX9_init_17 ⟨by omega, hq0.2⟩ flRX9_15 rfl rfl (fun _ => ⟨rfl, rfl⟩) ?_
  refine z_aload_n dX9_init_20 0 rfl ?_
  refine z_bipush (M := mX9_init) (v := 24) dX9_init_21 rfl ?_
  refine i_newaI hF hg (by omega) dX9_init_23 (zof7 hq0 3 (20, 24) rfl) ⟨by decide, rfl, by decide⟩ arc_int ⟨by decide, by decide⟩ ?_
  refine z_putRF dX9_init_25 ⟨by omega, hq0.2⟩ flRX9_18 rfl rfl (fun _ => ⟨rfl, rfl⟩) ?_
  refine z_aload_n dX9_init_28 0 rfl ?_
  refine z_sipush (M := mX9_init) (v := 300) dX9_init_29 rfl ?_
  refine i_newaI hF hg (by omega) dX9_init_32 (zof7 hq0 4 (20, 300) rfl) ⟨by decide, rfl, by decide⟩ arc_int ⟨by decide, by decide⟩ ?_
  refine z_putRF dX9_init_34 ⟨by omega, hq0.2⟩ flRX9_21 rfl rfl (fun _ => ⟨rfl, rfl⟩) ?_
  refine z_aload_n dX9_init_37 0 rfl ?_
  refine z_iconst (M := mX9_init) (v := 2) dX9_init_38 rfl ?_
  refine i_newaI hF hg (by omega) dX9_init_39 (zof7 hq0 5 (20, 2) rfl) ⟨by decide, rfl, by decide⟩ arc_int ⟨by decide, by decide⟩ ?_
  refine z_putRF dX9_init_41 ⟨by omega, hq0.2⟩ flRX9_24 rfl rfl (fun _ => ⟨rfl, rfl⟩) ?_
  refine z_aload_n dX9_init_44 0 rfl ?_
  refine z_iconst (M := mX9_init) (v := 2) dX9_init_45 rfl ?_
  refine i_newaI hF hg (by omega) dX9_init_46 (zof7 hq0 6 (20, 2) rfl) ⟨by decide, rfl, by decide⟩ arc_int ⟨by decide, by decide⟩ ?_
  refine z_putRF dX9_init_48 ⟨by omega, hq0.2⟩ flRX9_27 rfl rfl (fun _ => ⟨rfl, rfl⟩) ?_
  exact i_ret dX9_init_51 rfl (by omega) (fun _ _ => rfl)
-- FuseMinutes$Reader
theorem dX3_init_0 : decode cX3_init 0 = .ok (.aload_n 0, 1) := by decide +kernel
theorem dX3_init_1 : decode cX3_init 1 = .ok (.invokespecial 3, 3) := by decide +kernel
theorem dX3_init_4 : decode cX3_init 4 = .ok (.aload_n 0, 1) := by decide +kernel
theorem dX3_init_5 : decode cX3_init 5 = .ok (.sipush 300, 3) := by decide +kernel
theorem dX3_init_8 : decode cX3_init 8 = .ok (.newarray .int, 2) := by decide +kernel
theorem dX3_init_10 : decode cX3_init 10 = .ok (.putfield 9, 3) := by decide +kernel
theorem dX3_init_13 : decode cX3_init 13 = .ok (.aload_n 0, 1) := by decide +kernel
theorem dX3_init_14 : decode cX3_init 14 = .ok (.iconst (-1), 1) := by decide +kernel
theorem dX3_init_15 : decode cX3_init 15 = .ok (.putfield 15, 3) := by decide +kernel
theorem dX3_init_18 : decode cX3_init 18 = .ok (.aload_n 0, 1) := by decide +kernel
theorem dX3_init_19 : decode cX3_init 19 = .ok (.iconst (-1), 1) := by decide +kernel
theorem dX3_init_20 : decode cX3_init 20 = .ok (.putfield 19, 3) := by decide +kernel
theorem dX3_init_23 : decode cX3_init 23 = .ok (.return_, 1) := by decide +kernel
def i_Rd (μ : Mm) : Mm := (zsi (zsi (zsr (zclr μ 272) 271 0 (some 272)) 271 2 (-1 : Int32)) 271 3 (-1 : Int32))
set_option maxRecDepth 100000 in
set_option maxHeartbeats 4000000 in
theorem ci_Rd {g : GG} {d : Nat} {μ : Mm} (hg : zG g) (hd0 : 1 ≤ d) : CtI g d mX3_init 272 273 300 [.ref 271] μ (i_Rd μ) := by
  have hF : zvac g 272 (zFI g 272 273 300 (i_Rd μ)) := zFI_vac
  refine i_entry (mc := 1) (lv := [(0, .ref 271)]) in_X3_init (Nat.le_of_ble_eq_true rfl) rfl (by omega) ?_
  refine z_aload_n dX3_init_0 0 rfl ?_
  refine z_obj dX3_init_1 (obw obRX3) (by omega) (Nat.le_of_ble_eq_true rfl) ?_
  refine z_aload_n dX3_init_4 0 rfl ?_
  refine z_sipush (M := mX3_init) (v := 300) dX3_init_5 rfl ?_
  refine i_newaI hF hg (by omega) dX3_init_8 zk_272 ⟨by decide, rfl, by decide⟩ arc_int ⟨by decide, by decide⟩ ?_
  refine z_putRF dX3_init_10 ⟨by decide, zk_271.2⟩ flRX3_9 rfl rfl (fun _ => ⟨rfl, rfl⟩) ?_
  refine z_aload_n dX3_init_13 0 rfl ?_
  refine z_iconst (M := mX3_init) (v := -1) dX3_init_14 rfl ?_
  refine z_putI dX3_init_15 ⟨by decide, zk_271.2⟩ flRX3_15 ⟨rfl, rfl⟩ ?_
  refine z_aload_n dX3_init_18 0 rfl ?_
  refine z_iconst (M := mX3_init) (v := -1) dX3_init_19 rfl ?_
  refine z_putI dX3_init_20 ⟨by decide, zk_271.2⟩ flRX3_19 ⟨rfl, rfl⟩ ?_
  exact i_ret dX3_init_23 rfl (by decide) (fun _ _ => rfl)
-- FuseMinutes$Sums
theorem dX7_init_0 : decode cX7_init 0 = .ok (.aload_n 0, 1) := by decide +kernel
theorem dX7_init_1 : decode cX7_init 1 = .ok (.invokespecial 3, 3) := by decide +kernel
theorem dX7_init_4 : decode cX7_init 4 = .ok (.aload_n 0, 1) := by decide +kernel
theorem dX7_init_5 : decode cX7_init 5 = .ok (.sipush 301, 3) := by decide +kernel
theorem dX7_init_8 : decode cX7_init 8 = .ok (.newarray .int, 2) := by decide +kernel
theorem dX7_init_10 : decode cX7_init 10 = .ok (.putfield 9, 3) := by decide +kernel
theorem dX7_init_13 : decode cX7_init 13 = .ok (.aload_n 0, 1) := by decide +kernel
theorem dX7_init_14 : decode cX7_init 14 = .ok (.aload_n 1, 1) := by decide +kernel
theorem dX7_init_15 : decode cX7_init 15 = .ok (.putfield 15, 3) := by decide +kernel
theorem dX7_init_18 : decode cX7_init 18 = .ok (.return_, 1) := by decide +kernel
def i_Su (μ : Mm) : Mm := (zsr (zsr (zclr μ 275) 274 1 (some 275)) 274 0 (some 1))
set_option maxRecDepth 100000 in
set_option maxHeartbeats 4000000 in
theorem ci_Su {g : GG} {d : Nat} {μ : Mm} (hg : zG g) (hd0 : 1 ≤ d) : CtI g d mX7_init 275 276 301 [.ref 274, .ref 1] μ (i_Su μ) := by
  have hF : zvac g 275 (zFI g 275 276 301 (i_Su μ)) := zFI_vac
  refine i_entry (mc := 1) (lv := [(0, .ref 274), (1, .ref 1)]) in_X7_init (Nat.le_of_ble_eq_true rfl) rfl (by omega) ?_
  refine z_aload_n dX7_init_0 0 rfl ?_
  refine z_obj dX7_init_1 (obw obRX7) (by omega) (Nat.le_of_ble_eq_true rfl) ?_
  refine z_aload_n dX7_init_4 0 rfl ?_
  refine z_sipush (M := mX7_init) (v := 301) dX7_init_5 rfl ?_
  refine i_newaI hF hg (by omega) dX7_init_8 zk_275 ⟨by decide, rfl, by decide⟩ arc_int ⟨by decide, by decide⟩ ?_
  refine z_putRF dX7_init_10 ⟨by decide, zk_274.2⟩ flRX7_9 rfl rfl (fun _ => ⟨rfl, rfl⟩) ?_
  refine z_aload_n dX7_init_13 0 rfl ?_
  refine z_aload_n dX7_init_14 1 rfl ?_
  refine z_putRF dX7_init_15 ⟨by decide, zk_274.2⟩ flRX7_15 rfl rfl (fun _ => ⟨rfl, rfl⟩) ?_
  exact i_ret dX7_init_18 rfl (by decide) (fun _ _ => rfl)
-- FuseMinutes$Rows
theorem dX4_init_0 : decode cX4_init 0 = .ok (.aload_n 0, 1) := by decide +kernel
theorem dX4_init_1 : decode cX4_init 1 = .ok (.invokespecial 3, 3) := by decide +kernel
theorem dX4_init_4 : decode cX4_init 4 = .ok (.aload_n 0, 1) := by decide +kernel
theorem dX4_init_5 : decode cX4_init 5 = .ok (.sipush 3856, 3) := by decide +kernel
theorem dX4_init_8 : decode cX4_init 8 = .ok (.newarray .long, 2) := by decide +kernel
theorem dX4_init_10 : decode cX4_init 10 = .ok (.putfield 9, 3) := by decide +kernel
theorem dX4_init_13 : decode cX4_init 13 = .ok (.aload_n 0, 1) := by decide +kernel
theorem dX4_init_14 : decode cX4_init 14 = .ok (.bipush 20, 2) := by decide +kernel
theorem dX4_init_16 : decode cX4_init 16 = .ok (.newarray .int, 2) := by decide +kernel
theorem dX4_init_18 : decode cX4_init 18 = .ok (.putfield 15, 3) := by decide +kernel
theorem dX4_init_21 : decode cX4_init 21 = .ok (.aload_n 0, 1) := by decide +kernel
theorem dX4_init_22 : decode cX4_init 22 = .ok (.bipush 20, 2) := by decide +kernel
theorem dX4_init_24 : decode cX4_init 24 = .ok (.newarray .int, 2) := by decide +kernel
theorem dX4_init_26 : decode cX4_init 26 = .ok (.putfield 19, 3) := by decide +kernel
theorem dX4_init_29 : decode cX4_init 29 = .ok (.aload_n 0, 1) := by decide +kernel
theorem dX4_init_30 : decode cX4_init 30 = .ok (.bipush 20, 2) := by decide +kernel
theorem dX4_init_32 : decode cX4_init 32 = .ok (.newarray .int, 2) := by decide +kernel
theorem dX4_init_34 : decode cX4_init 34 = .ok (.putfield 22, 3) := by decide +kernel
theorem dX4_init_37 : decode cX4_init 37 = .ok (.aload_n 0, 1) := by decide +kernel
theorem dX4_init_38 : decode cX4_init 38 = .ok (.iconst 5, 1) := by decide +kernel
theorem dX4_init_39 : decode cX4_init 39 = .ok (.newarray .int, 2) := by decide +kernel
theorem dX4_init_41 : decode cX4_init 41 = .ok (.putfield 25, 3) := by decide +kernel
theorem dX4_init_44 : decode cX4_init 44 = .ok (.aload_n 0, 1) := by decide +kernel
theorem dX4_init_45 : decode cX4_init 45 = .ok (.aload_n 1, 1) := by decide +kernel
theorem dX4_init_46 : decode cX4_init 46 = .ok (.putfield 28, 3) := by decide +kernel
theorem dX4_init_49 : decode cX4_init 49 = .ok (.return_, 1) := by decide +kernel
def i_Rw (μ : Mm) : Mm := (zsr (zsr (zclr (zsr (zclr (zsr (zclr (zsr (zclr (zsr (zclr μ 277) 276 3 (some 277)) 278) 276 7 (some 278)) 279) 276 8 (some 279)) 280) 276 9 (some 280)) 281) 276 10 (some 281)) 276 0 (some 128))
set_option maxRecDepth 100000 in
set_option maxHeartbeats 4000000 in
theorem ci_Rw {g : GG} {d : Nat} {μ : Mm} (hg : zG g) (hd0 : 1 ≤ d) : CtI g d mX4_init 277 282 3921 [.ref 276, .ref 128] μ (i_Rw μ) := by
  have hF : zvac g 277 (zFI g 277 282 3921 (i_Rw μ)) := zFI_vac
  refine i_entry (mc := 5) (lv := [(0, .ref 276), (1, .ref 128)]) in_X4_init (Nat.le_of_ble_eq_true rfl) rfl (by omega) ?_
  refine z_aload_n dX4_init_0 0 rfl ?_
  refine z_obj dX4_init_1 (obw obRX4) (by omega) (Nat.le_of_ble_eq_true rfl) ?_
  refine z_aload_n dX4_init_4 0 rfl ?_
  refine z_sipush (M := mX4_init) (v := 3856) dX4_init_5 rfl ?_
  refine i_newaJ hF hg (by omega) dX4_init_8 zk_277 ⟨by decide, rfl, by decide⟩ arc_long ⟨by decide, by decide⟩ ?_
  refine z_putRF dX4_init_10 ⟨by decide, zk_276.2⟩ flRX4_9 rfl rfl (fun _ => ⟨rfl, rfl⟩) ?_
  refine z_aload_n dX4_init_13 0 rfl ?_
  refine z_bipush (M := mX4_init) (v := 20) dX4_init_14 rfl ?_
  refine i_newaI hF hg (by omega) dX4_init_16 zk_278 ⟨by decide, rfl, by decide⟩ arc_int ⟨by decide, by decide⟩ ?_
  refine z_putRF dX4_init_18 ⟨by decide, zk_276.2⟩ flRX4_15 rfl rfl (fun _ => ⟨rfl, rfl⟩) ?_
  refine z_aload_n dX4_init_21 0 rfl ?_
  refine z_bipush (M := mX4_init) (v := 20) dX4_init_22 rfl ?_
  refine i_newaI hF hg (by omega) dX4_init_24 zk_279 ⟨by decide, rfl, by decide⟩ arc_int ⟨by decide, by decide⟩ ?_
  refine z_putRF dX4_init_26 ⟨by decide, zk_276.2⟩ flRX4_19 rfl rfl (fun _ => ⟨rfl, rfl⟩) ?_
  refine z_aload_n dX4_init_29 0 rfl ?_
  refine z_bipush (M := mX4_init) (v := 20) dX4_init_30 rfl ?_
  refine i_newaI hF hg (by omega) dX4_init_32 zk_280 ⟨by decide, rfl, by decide⟩ arc_int ⟨by decide, by decide⟩ ?_
  refine z_putRF dX4_init_34 ⟨by decide, zk_276.2⟩ flRX4_22 rfl rfl (fun _ => ⟨rfl, rfl⟩) ?_
  refine z_aload_n dX4_init_37 0 rfl ?_
  refine z_iconst (M := mX4_init) (v := 5) dX4_init_38 rfl ?_
  refine i_newaI hF hg (by omega) dX4_init_39 zk_281 ⟨by decide, rfl, by decide⟩ arc_int ⟨by decide, by decide⟩ ?_
  refine z_putRF dX4_init_41 ⟨by decide, zk_276.2⟩ flRX4_25 rfl rfl (fun _ => ⟨rfl, rfl⟩) ?_
  refine z_aload_n dX4_init_44 0 rfl ?_
  refine z_aload_n dX4_init_45 1 rfl ?_
  refine z_putRF dX4_init_46 ⟨by decide, zk_276.2⟩ flRX4_28 rfl rfl (fun _ => ⟨rfl, rfl⟩) ?_
  exact i_ret dX4_init_49 rfl (by decide) (fun _ _ => rfl)
-- FuseMinutes$Bundles
theorem dX0_init_0 : decode cX0_init 0 = .ok (.aload_n 0, 1) := by decide +kernel
theorem dX0_init_1 : decode cX0_init 1 = .ok (.invokespecial 3, 3) := by decide +kernel
theorem dX0_init_4 : decode cX0_init 4 = .ok (.aload_n 0, 1) := by decide +kernel
theorem dX0_init_5 : decode cX0_init 5 = .ok (.iconst 4, 1) := by decide +kernel
theorem dX0_init_6 : decode cX0_init 6 = .ok (.newarray .int, 2) := by decide +kernel
theorem dX0_init_8 : decode cX0_init 8 = .ok (.putfield 9, 3) := by decide +kernel
theorem dX0_init_11 : decode cX0_init 11 = .ok (.aload_n 0, 1) := by decide +kernel
theorem dX0_init_12 : decode cX0_init 12 = .ok (.iconst 4, 1) := by decide +kernel
theorem dX0_init_13 : decode cX0_init 13 = .ok (.newarray .int, 2) := by decide +kernel
theorem dX0_init_15 : decode cX0_init 15 = .ok (.putfield 15, 3) := by decide +kernel
theorem dX0_init_18 : decode cX0_init 18 = .ok (.return_, 1) := by decide +kernel
def i_Bu (μ : Mm) : Mm := (zsr (zclr (zsr (zclr μ 283) 282 0 (some 283)) 284) 282 1 (some 284))
set_option maxRecDepth 100000 in
set_option maxHeartbeats 4000000 in
theorem ci_Bu {g : GG} {d : Nat} {μ : Mm} (hg : zG g) (hd0 : 1 ≤ d) : CtI g d mX0_init 283 285 8 [.ref 282] μ (i_Bu μ) := by
  have hF : zvac g 283 (zFI g 283 285 8 (i_Bu μ)) := zFI_vac
  refine i_entry (mc := 2) (lv := [(0, .ref 282)]) in_X0_init (Nat.le_of_ble_eq_true rfl) rfl (by omega) ?_
  refine z_aload_n dX0_init_0 0 rfl ?_
  refine z_obj dX0_init_1 (obw obRX0) (by omega) (Nat.le_of_ble_eq_true rfl) ?_
  refine z_aload_n dX0_init_4 0 rfl ?_
  refine z_iconst (M := mX0_init) (v := 4) dX0_init_5 rfl ?_
  refine i_newaI hF hg (by omega) dX0_init_6 zk_283 ⟨by decide, rfl, by decide⟩ arc_int ⟨by decide, by decide⟩ ?_
  refine z_putRF dX0_init_8 ⟨by decide, zk_282.2⟩ flRX0_9 rfl rfl (fun _ => ⟨rfl, rfl⟩) ?_
  refine z_aload_n dX0_init_11 0 rfl ?_
  refine z_iconst (M := mX0_init) (v := 4) dX0_init_12 rfl ?_
  refine i_newaI hF hg (by omega) dX0_init_13 zk_284 ⟨by decide, rfl, by decide⟩ arc_int ⟨by decide, by decide⟩ ?_
  refine z_putRF dX0_init_15 ⟨by decide, zk_282.2⟩ flRX0_15 rfl rfl (fun _ => ⟨rfl, rfl⟩) ?_
  exact i_ret dX0_init_18 rfl (by decide) (fun _ _ => rfl)
-- FuseMinutes
theorem dX11_init_0 : decode cX11_init 0 = .ok (.aload_n 0, 1) := by decide +kernel
theorem dX11_init_1 : decode cX11_init 1 = .ok (.invokespecial 3, 3) := by decide +kernel
theorem dX11_init_4 : decode cX11_init 4 = .ok (.aload_n 0, 1) := by decide +kernel
theorem dX11_init_5 : decode cX11_init 5 = .ok (.new 9, 3) := by decide +kernel
theorem dX11_init_8 : decode cX11_init 8 = .ok (.dup, 1) := by decide +kernel
theorem dX11_init_9 : decode cX11_init 9 = .ok (.invokespecial 11, 3) := by decide +kernel
theorem dX11_init_12 : decode cX11_init 12 = .ok (.putfield 12, 3) := by decide +kernel
theorem dX11_init_15 : decode cX11_init 15 = .ok (.aload_n 0, 1) := by decide +kernel
theorem dX11_init_16 : decode cX11_init 16 = .ok (.new 9, 3) := by decide +kernel
theorem dX11_init_19 : decode cX11_init 19 = .ok (.dup, 1) := by decide +kernel
theorem dX11_init_20 : decode cX11_init 20 = .ok (.invokespecial 11, 3) := by decide +kernel
theorem dX11_init_23 : decode cX11_init 23 = .ok (.putfield 16, 3) := by decide +kernel
theorem dX11_init_26 : decode cX11_init 26 = .ok (.aload_n 0, 1) := by decide +kernel
theorem dX11_init_27 : decode cX11_init 27 = .ok (.new 19, 3) := by decide +kernel
theorem dX11_init_30 : decode cX11_init 30 = .ok (.dup, 1) := by decide +kernel
theorem dX11_init_31 : decode cX11_init 31 = .ok (.invokespecial 21, 3) := by decide +kernel
theorem dX11_init_34 : decode cX11_init 34 = .ok (.putfield 22, 3) := by decide +kernel
theorem dX11_init_37 : decode cX11_init 37 = .ok (.aload_n 0, 1) := by decide +kernel
theorem dX11_init_38 : decode cX11_init 38 = .ok (.iconst 4, 1) := by decide +kernel
theorem dX11_init_39 : decode cX11_init 39 = .ok (.anewarray 26, 3) := by decide +kernel
theorem dX11_init_42 : decode cX11_init 42 = .ok (.putfield 28, 3) := by decide +kernel
theorem dX11_init_45 : decode cX11_init 45 = .ok (.aload_n 0, 1) := by decide +kernel
theorem dX11_init_46 : decode cX11_init 46 = .ok (.new 32, 3) := by decide +kernel
theorem dX11_init_49 : decode cX11_init 49 = .ok (.dup, 1) := by decide +kernel
theorem dX11_init_50 : decode cX11_init 50 = .ok (.aload_n 0, 1) := by decide +kernel
theorem dX11_init_51 : decode cX11_init 51 = .ok (.getfield 12, 3) := by decide +kernel
theorem dX11_init_54 : decode cX11_init 54 = .ok (.invokespecial 34, 3) := by decide +kernel
theorem dX11_init_57 : decode cX11_init 57 = .ok (.putfield 37, 3) := by decide +kernel
theorem dX11_init_60 : decode cX11_init 60 = .ok (.aload_n 0, 1) := by decide +kernel
theorem dX11_init_61 : decode cX11_init 61 = .ok (.new 41, 3) := by decide +kernel
theorem dX11_init_64 : decode cX11_init 64 = .ok (.dup, 1) := by decide +kernel
theorem dX11_init_65 : decode cX11_init 65 = .ok (.aload_n 0, 1) := by decide +kernel
theorem dX11_init_66 : decode cX11_init 66 = .ok (.getfield 12, 3) := by decide +kernel
theorem dX11_init_69 : decode cX11_init 69 = .ok (.getfield 43, 3) := by decide +kernel
theorem dX11_init_72 : decode cX11_init 72 = .ok (.invokespecial 47, 3) := by decide +kernel
theorem dX11_init_75 : decode cX11_init 75 = .ok (.putfield 50, 3) := by decide +kernel
theorem dX11_init_78 : decode cX11_init 78 = .ok (.aload_n 0, 1) := by decide +kernel
theorem dX11_init_79 : decode cX11_init 79 = .ok (.new 54, 3) := by decide +kernel
theorem dX11_init_82 : decode cX11_init 82 = .ok (.dup, 1) := by decide +kernel
theorem dX11_init_83 : decode cX11_init 83 = .ok (.invokespecial 56, 3) := by decide +kernel
theorem dX11_init_86 : decode cX11_init 86 = .ok (.putfield 57, 3) := by decide +kernel
theorem dX11_init_89 : decode cX11_init 89 = .ok (.iconst 0, 1) := by decide +kernel
theorem dX11_init_90 : decode cX11_init 90 = .ok (.istore_n 1, 1) := by decide +kernel
theorem dX11_init_91 : decode cX11_init 91 = .ok (.iload_n 1, 1) := by decide +kernel
theorem dX11_init_92 : decode cX11_init 92 = .ok (.iconst 4, 1) := by decide +kernel
theorem dX11_init_93 : decode cX11_init 93 = .ok (.if_icmp .ge 22, 3) := by decide +kernel
theorem dX11_init_96 : decode cX11_init 96 = .ok (.aload_n 0, 1) := by decide +kernel
theorem dX11_init_97 : decode cX11_init 97 = .ok (.getfield 28, 3) := by decide +kernel
theorem dX11_init_100 : decode cX11_init 100 = .ok (.iload_n 1, 1) := by decide +kernel
theorem dX11_init_101 : decode cX11_init 101 = .ok (.new 26, 3) := by decide +kernel
theorem dX11_init_104 : decode cX11_init 104 = .ok (.dup, 1) := by decide +kernel
theorem dX11_init_105 : decode cX11_init 105 = .ok (.invokespecial 61, 3) := by decide +kernel
theorem dX11_init_108 : decode cX11_init 108 = .ok (.aastore, 1) := by decide +kernel
theorem dX11_init_109 : decode cX11_init 109 = .ok (.iinc 1 1, 3) := by decide +kernel
theorem dX11_init_112 : decode cX11_init 112 = .ok (.goto (-21), 3) := by decide +kernel
theorem dX11_init_115 : decode cX11_init 115 = .ok (.return_, 1) := by decide +kernel
def i_Fm (μ : Mm) : Mm := (zsr (i_Tx (zclr (zsr (i_Tx (zclr (zsr (i_Tx (zclr (zsr (i_Tx (zclr (zsr (i_Bu (zclr (zsr (i_Rw (zclr (zsr (i_Su (zclr (zsr (zclr (zsr (i_Rd (zclr (zsr (i_So (zclr (zsr (i_So (zclr μ 1) 1) 0 0 (some 1)) 136) 136) 0 1 (some 136)) 271)) 0 2 (some 271)) 273) 0 3 (some 273)) 274)) 0 4 (some 274)) 276)) 0 5 (some 276)) 282)) 0 6 (some 282)) 285) 285) 273 0 (some 285)) 292) 292) 273 1 (some 292)) 299) 299) 273 2 (some 299)) 306) 306) 273 3 (some 306))
set_option maxRecDepth 100000 in
set_option maxHeartbeats 4000000 in
theorem ci_Fm {g : GG} {d : Nat} {μ : Mm} (hg : zG g) (hd0 : 4 ≤ d) : CtI g d mX11_init 1 313 9111 [.ref 0] μ (i_Fm μ) := by
  have hF : zvac g 1 (zFI g 1 313 9111 (i_Fm μ)) := zFI_vac
  refine i_entry (mc := 312) (lv := [(0, .ref 0)]) in_X11_init (Nat.le_of_ble_eq_true rfl) rfl (by omega) ?_
  refine z_aload_n dX11_init_0 0 rfl ?_
  refine z_obj dX11_init_1 (obw obRX11) (by omega) (Nat.le_of_ble_eq_true rfl) ?_
  refine z_aload_n dX11_init_4 0 rfl ?_
  refine i_new hF hg (by omega) dX11_init_5 zcX6 dfX6 zk_1 cwRX11_9 ⟨by decide, by decide⟩ ?_
  refine z_dup dX11_init_8 rfl ?_
  refine i_call (M := mX11_init) (n1 := 136) (ms := 1493) (cl2 := 135) (sl2 := 1504) (Y := mX6_init) (d2 := d - 1) (As := []) (st := [.ref 1, .ref 0]) hF hg (by omega) (by decide) dX11_init_9 (Or.inr nlRX11_11) ck_X6_init (ci_So (g := g) (d := d - 1) hg (by omega) zk_1) (by omega) rfl rfl (Nat.le_of_ble_eq_true rfl) (by omega) rfl ⟨by decide, by decide⟩ ?_
  refine z_putRF dX11_init_12 ⟨by decide, zk_0.2⟩ flRX11_12 rfl rfl (fun _ => ⟨rfl, rfl⟩) ?_
  refine z_aload_n dX11_init_15 0 rfl ?_
  refine i_new hF hg (by omega) dX11_init_16 zcX6 dfX6 zk_136 cwRX11_9 ⟨by decide, by decide⟩ ?_
  refine z_dup dX11_init_19 rfl ?_
  refine i_call (M := mX11_init) (n1 := 271) (ms := 1493) (cl2 := 270) (sl2 := 3008) (Y := mX6_init) (d2 := d - 1) (As := []) (st := [.ref 136, .ref 0]) hF hg (by omega) (by decide) dX11_init_20 (Or.inr nlRX11_11) ck_X6_init (ci_So (g := g) (d := d - 1) hg (by omega) zk_136) (by omega) rfl rfl (Nat.le_of_ble_eq_true rfl) (by omega) rfl ⟨by decide, by decide⟩ ?_
  refine z_putRF dX11_init_23 ⟨by decide, zk_0.2⟩ flRX11_16 rfl rfl (fun _ => ⟨rfl, rfl⟩) ?_
  refine z_aload_n dX11_init_26 0 rfl ?_
  refine i_new hF hg (by omega) dX11_init_27 zcX3 dfX3 zk_271 cwRX11_19 ⟨by decide, by decide⟩ ?_
  refine z_dup dX11_init_30 rfl ?_
  refine i_call (M := mX11_init) (n1 := 273) (ms := 300) (cl2 := 272) (sl2 := 3319) (Y := mX3_init) (d2 := d - 1) (As := []) (st := [.ref 271, .ref 0]) hF hg (by omega) (by decide) dX11_init_31 (Or.inr nlRX11_21) ck_X3_init (ci_Rd (g := g) (d := d - 1) hg (by omega)) (by omega) rfl rfl (Nat.le_of_ble_eq_true rfl) (by omega) rfl ⟨by decide, by decide⟩ ?_
  refine z_putRF dX11_init_34 ⟨by decide, zk_0.2⟩ flRX11_22 rfl rfl (fun _ => ⟨rfl, rfl⟩) ?_
  refine z_aload_n dX11_init_37 0 rfl ?_
  refine z_iconst (M := mX11_init) (v := 4) dX11_init_38 rfl ?_
  refine i_newqT hF hg (by omega) dX11_init_39 zk_273 ⟨by decide, rfl, by decide⟩ cwRX11_26.1 ⟨by decide, by decide⟩ ?_
  refine z_putRF dX11_init_42 ⟨by decide, zk_0.2⟩ flRX11_28 rfl rfl (fun _ => ⟨rfl, rfl⟩) ?_
  refine z_aload_n dX11_init_45 0 rfl ?_
  refine i_new hF hg (by omega) dX11_init_46 zcX7 dfX7 zk_274 cwRX11_32 ⟨by decide, by decide⟩ ?_
  refine z_dup dX11_init_49 rfl ?_
  refine z_aload_n dX11_init_50 0 rfl ?_
  refine z_getR (M := mX11_init) (r := 1) dX11_init_51 ⟨by decide, zk_0.2⟩ flRX11_12 rfl ?_
  refine i_call (M := mX11_init) (n1 := 276) (ms := 301) (cl2 := 275) (sl2 := 3628) (Y := mX7_init) (d2 := d - 1) (As := [.ref 1]) (st := [.ref 274, .ref 0]) hF hg (by omega) (by decide) dX11_init_54 (Or.inl mlRX11_34) ck_X7_init (ci_Su (g := g) (d := d - 1) hg (by omega)) (by omega) rfl rfl (Nat.le_of_ble_eq_true rfl) (by omega) rfl ⟨by decide, by decide⟩ ?_
  refine z_putRF dX11_init_57 ⟨by decide, zk_0.2⟩ flRX11_37 rfl rfl (fun _ => ⟨rfl, rfl⟩) ?_
  refine z_aload_n dX11_init_60 0 rfl ?_
  refine i_new hF hg (by omega) dX11_init_61 zcX4 dfX4 zk_276 cwRX11_41 ⟨by decide, by decide⟩ ?_
  refine z_dup dX11_init_64 rfl ?_
  refine z_aload_n dX11_init_65 0 rfl ?_
  refine z_getR (M := mX11_init) (r := 1) dX11_init_66 ⟨by decide, zk_0.2⟩ flRX11_12 rfl ?_
  refine z_getR (M := mX11_init) (r := 128) dX11_init_69 ⟨by decide, zk_1.2⟩ flRX11_43 rfl ?_
  refine i_call (M := mX11_init) (n1 := 282) (ms := 3921) (cl2 := 281) (sl2 := 7563) (Y := mX4_init) (d2 := d - 1) (As := [.ref 128]) (st := [.ref 276, .ref 0]) hF hg (by omega) (by decide) dX11_init_72 (Or.inl mlRX11_47) ck_X4_init (ci_Rw (g := g) (d := d - 1) hg (by omega)) (by omega) rfl rfl (Nat.le_of_ble_eq_true rfl) (by omega) rfl ⟨by decide, by decide⟩ ?_
  refine z_putRF dX11_init_75 ⟨by decide, zk_0.2⟩ flRX11_50 rfl rfl (fun _ => ⟨rfl, rfl⟩) ?_
  refine z_aload_n dX11_init_78 0 rfl ?_
  refine i_new hF hg (by omega) dX11_init_79 zcX0 dfX0 zk_282 cwRX11_54 ⟨by decide, by decide⟩ ?_
  refine z_dup dX11_init_82 rfl ?_
  refine i_call (M := mX11_init) (n1 := 285) (ms := 8) (cl2 := 284) (sl2 := 7575) (Y := mX0_init) (d2 := d - 1) (As := []) (st := [.ref 282, .ref 0]) hF hg (by omega) (by decide) dX11_init_83 (Or.inr nlRX11_56) ck_X0_init (ci_Bu (g := g) (d := d - 1) hg (by omega)) (by omega) rfl rfl (Nat.le_of_ble_eq_true rfl) (by omega) rfl ⟨by decide, by decide⟩ ?_
  refine z_putRF dX11_init_86 ⟨by decide, zk_0.2⟩ flRX11_57 rfl rfl (fun _ => ⟨rfl, rfl⟩) ?_
  refine z_iconst (M := mX11_init) (v := 0) dX11_init_89 rfl ?_
  refine z_istore_n (M := mX11_init) (lv2 := [(1, .int (0 : Int32)), (0, .ref 0)]) dX11_init_90 (Nat.le_of_ble_eq_true rfl) rfl ?_
  refine z_iload_n dX11_init_91 0 rfl ?_
  refine z_iconst (M := mX11_init) (v := 4) dX11_init_92 rfl ?_
  refine z_icmp_ge 115 dX11_init_93 rfl (fun h => absurd h (by decide)) (fun _ => ?_)
  refine z_aload_n dX11_init_96 1 rfl ?_
  refine z_getR (M := mX11_init) (r := 273) dX11_init_97 ⟨by decide, zk_0.2⟩ flRX11_28 rfl ?_
  refine z_iload_n dX11_init_100 0 rfl ?_
  refine i_new hF hg (by omega) dX11_init_101 zcX9 dfX9 zk_285 cwRX11_26 ⟨by decide, by decide⟩ ?_
  refine z_dup dX11_init_104 rfl ?_
  refine i_call (M := mX11_init) (n1 := 292) (ms := 376) (cl2 := 291) (sl2 := 7959) (Y := mX9_init) (d2 := d - 1) (As := []) (st := [.ref 285, .int (0 : Int32), .ref 273]) hF hg (by omega) (by decide) dX11_init_105 (Or.inr nlRX11_61) ck_X9_init (ci_Tx (g := g) (d := d - 1) hg (by omega) zk_285) (by omega) rfl rfl (Nat.le_of_ble_eq_true rfl) (by omega) rfl ⟨by decide, by decide⟩ ?_
  refine z_aastT dX11_init_108 ⟨by decide, zk_273.2⟩ ⟨by decide, zk_285.2⟩ (inb_vp rfl) ?_
  refine z_iinc (M := mX11_init) (v := (1 : Int32)) (lv2 := [(1, .int (1 : Int32)), (0, .ref 0)]) dX11_init_109 0 rfl rfl (Nat.le_of_ble_eq_true rfl) rfl ?_
  refine z_goto 91 dX11_init_112 rfl ?_
  refine z_iload_n dX11_init_91 0 rfl ?_
  refine z_iconst (M := mX11_init) (v := 4) dX11_init_92 rfl ?_
  refine z_icmp_ge 115 dX11_init_93 rfl (fun h => absurd h (by decide)) (fun _ => ?_)
  refine z_aload_n dX11_init_96 1 rfl ?_
  refine z_getR (M := mX11_init) (r := 273) dX11_init_97 ⟨by decide, zk_0.2⟩ flRX11_28 rfl ?_
  refine z_iload_n dX11_init_100 0 rfl ?_
  refine i_new hF hg (by omega) dX11_init_101 zcX9 dfX9 zk_292 cwRX11_26 ⟨by decide, by decide⟩ ?_
  refine z_dup dX11_init_104 rfl ?_
  refine i_call (M := mX11_init) (n1 := 299) (ms := 376) (cl2 := 298) (sl2 := 8343) (Y := mX9_init) (d2 := d - 1) (As := []) (st := [.ref 292, .int (1 : Int32), .ref 273]) hF hg (by omega) (by decide) dX11_init_105 (Or.inr nlRX11_61) ck_X9_init (ci_Tx (g := g) (d := d - 1) hg (by omega) zk_292) (by omega) rfl rfl (Nat.le_of_ble_eq_true rfl) (by omega) rfl ⟨by decide, by decide⟩ ?_
  refine z_aastT dX11_init_108 ⟨by decide, zk_273.2⟩ ⟨by decide, zk_292.2⟩ (inb_vp rfl) ?_
  refine z_iinc (M := mX11_init) (v := (2 : Int32)) (lv2 := [(1, .int (2 : Int32)), (0, .ref 0)]) dX11_init_109 0 rfl rfl (Nat.le_of_ble_eq_true rfl) rfl ?_
  refine z_goto 91 dX11_init_112 rfl ?_
  refine z_iload_n dX11_init_91 0 rfl ?_
  refine z_iconst (M := mX11_init) (v := 4) dX11_init_92 rfl ?_
  refine z_icmp_ge 115 dX11_init_93 rfl (fun h => absurd h (by decide)) (fun _ => ?_)
  refine z_aload_n dX11_init_96 1 rfl ?_
  refine z_getR (M := mX11_init) (r := 273) dX11_init_97 ⟨by decide, zk_0.2⟩ flRX11_28 rfl ?_
  refine z_iload_n dX11_init_100 0 rfl ?_
  refine i_new hF hg (by omega) dX11_init_101 zcX9 dfX9 zk_299 cwRX11_26 ⟨by decide, by decide⟩ ?_
  refine z_dup dX11_init_104 rfl ?_
  refine i_call (M := mX11_init) (n1 := 306) (ms := 376) (cl2 := 305) (sl2 := 8727) (Y := mX9_init) (d2 := d - 1) (As := []) (st := [.ref 299, .int (2 : Int32), .ref 273]) hF hg (by omega) (by decide) dX11_init_105 (Or.inr nlRX11_61) ck_X9_init (ci_Tx (g := g) (d := d - 1) hg (by omega) zk_299) (by omega) rfl rfl (Nat.le_of_ble_eq_true rfl) (by omega) rfl ⟨by decide, by decide⟩ ?_
  refine z_aastT dX11_init_108 ⟨by decide, zk_273.2⟩ ⟨by decide, zk_299.2⟩ (inb_vp rfl) ?_
  refine z_iinc (M := mX11_init) (v := (3 : Int32)) (lv2 := [(1, .int (3 : Int32)), (0, .ref 0)]) dX11_init_109 0 rfl rfl (Nat.le_of_ble_eq_true rfl) rfl ?_
  refine z_goto 91 dX11_init_112 rfl ?_
  refine z_iload_n dX11_init_91 0 rfl ?_
  refine z_iconst (M := mX11_init) (v := 4) dX11_init_92 rfl ?_
  refine z_icmp_ge 115 dX11_init_93 rfl (fun h => absurd h (by decide)) (fun _ => ?_)
  refine z_aload_n dX11_init_96 1 rfl ?_
  refine z_getR (M := mX11_init) (r := 273) dX11_init_97 ⟨by decide, zk_0.2⟩ flRX11_28 rfl ?_
  refine z_iload_n dX11_init_100 0 rfl ?_
  refine i_new hF hg (by omega) dX11_init_101 zcX9 dfX9 zk_306 cwRX11_26 ⟨by decide, by decide⟩ ?_
  refine z_dup dX11_init_104 rfl ?_
  refine i_call (M := mX11_init) (n1 := 313) (ms := 376) (cl2 := 312) (sl2 := 9111) (Y := mX9_init) (d2 := d - 1) (As := []) (st := [.ref 306, .int (3 : Int32), .ref 273]) hF hg (by omega) (by decide) dX11_init_105 (Or.inr nlRX11_61) ck_X9_init (ci_Tx (g := g) (d := d - 1) hg (by omega) zk_306) (by omega) rfl rfl (Nat.le_of_ble_eq_true rfl) (by omega) rfl ⟨by decide, by decide⟩ ?_
  refine z_aastT dX11_init_108 ⟨by decide, zk_273.2⟩ ⟨by decide, zk_306.2⟩ (inb_vp rfl) ?_
  refine z_iinc (M := mX11_init) (v := (4 : Int32)) (lv2 := [(1, .int (4 : Int32)), (0, .ref 0)]) dX11_init_109 0 rfl rfl (Nat.le_of_ble_eq_true rfl) rfl ?_
  refine z_goto 91 dX11_init_112 rfl ?_
  refine z_iload_n dX11_init_91 0 rfl ?_
  refine z_iconst (M := mX11_init) (v := 4) dX11_init_92 rfl ?_
  refine z_icmp_ge 115 dX11_init_93 rfl (fun _ => ?_) (fun h => absurd (by decide) h)
  exact i_ret dX11_init_115 rfl (by decide) (fun _ _ => rfl)
-- FuseMinutesModel
theorem dX12_init_0 : decode cX12_init 0 = .ok (.aload_n 0, 1) := by decide +kernel
theorem dX12_init_1 : decode cX12_init 1 = .ok (.invokespecial 1, 3) := by decide +kernel
theorem dX12_init_4 : decode cX12_init 4 = .ok (.aload_n 0, 1) := by decide +kernel
theorem dX12_init_5 : decode cX12_init 5 = .ok (.sipush 1385, 3) := by decide +kernel
theorem dX12_init_8 : decode cX12_init 8 = .ok (.newarray .int, 2) := by decide +kernel
theorem dX12_init_10 : decode cX12_init 10 = .ok (.putfield 7, 3) := by decide +kernel
theorem dX12_init_13 : decode cX12_init 13 = .ok (.aload_n 0, 1) := by decide +kernel
theorem dX12_init_14 : decode cX12_init 14 = .ok (.sipush 1385, 3) := by decide +kernel
theorem dX12_init_17 : decode cX12_init 17 = .ok (.newarray .int, 2) := by decide +kernel
theorem dX12_init_19 : decode cX12_init 19 = .ok (.putfield 13, 3) := by decide +kernel
theorem dX12_init_22 : decode cX12_init 22 = .ok (.aload_n 0, 1) := by decide +kernel
theorem dX12_init_23 : decode cX12_init 23 = .ok (.sipush 2724, 3) := by decide +kernel
theorem dX12_init_26 : decode cX12_init 26 = .ok (.newarray .int, 2) := by decide +kernel
theorem dX12_init_28 : decode cX12_init 28 = .ok (.putfield 16, 3) := by decide +kernel
theorem dX12_init_31 : decode cX12_init 31 = .ok (.aload_n 0, 1) := by decide +kernel
theorem dX12_init_32 : decode cX12_init 32 = .ok (.sipush 300, 3) := by decide +kernel
theorem dX12_init_35 : decode cX12_init 35 = .ok (.newarray .int, 2) := by decide +kernel
theorem dX12_init_37 : decode cX12_init 37 = .ok (.putfield 19, 3) := by decide +kernel
theorem dX12_init_40 : decode cX12_init 40 = .ok (.aload_n 0, 1) := by decide +kernel
theorem dX12_init_41 : decode cX12_init 41 = .ok (.iconst (-1), 1) := by decide +kernel
theorem dX12_init_42 : decode cX12_init 42 = .ok (.putfield 22, 3) := by decide +kernel
theorem dX12_init_45 : decode cX12_init 45 = .ok (.aload_n 0, 1) := by decide +kernel
theorem dX12_init_46 : decode cX12_init 46 = .ok (.iconst (-1), 1) := by decide +kernel
theorem dX12_init_47 : decode cX12_init 47 = .ok (.putfield 26, 3) := by decide +kernel
theorem dX12_init_50 : decode cX12_init 50 = .ok (.aload_n 0, 1) := by decide +kernel
theorem dX12_init_51 : decode cX12_init 51 = .ok (.sipush 160, 3) := by decide +kernel
theorem dX12_init_54 : decode cX12_init 54 = .ok (.newarray .int, 2) := by decide +kernel
theorem dX12_init_56 : decode cX12_init 56 = .ok (.putfield 29, 3) := by decide +kernel
theorem dX12_init_59 : decode cX12_init 59 = .ok (.aload_n 0, 1) := by decide +kernel
theorem dX12_init_60 : decode cX12_init 60 = .ok (.bipush 7, 2) := by decide +kernel
theorem dX12_init_62 : decode cX12_init 62 = .ok (.newarray .int, 2) := by decide +kernel
theorem dX12_init_64 : decode cX12_init 64 = .ok (.putfield 32, 3) := by decide +kernel
theorem dX12_init_67 : decode cX12_init 67 = .ok (.aload_n 0, 1) := by decide +kernel
theorem dX12_init_68 : decode cX12_init 68 = .ok (.sipush 330, 3) := by decide +kernel
theorem dX12_init_71 : decode cX12_init 71 = .ok (.newarray .long, 2) := by decide +kernel
theorem dX12_init_73 : decode cX12_init 73 = .ok (.putfield 35, 3) := by decide +kernel
theorem dX12_init_76 : decode cX12_init 76 = .ok (.aload_n 0, 1) := by decide +kernel
theorem dX12_init_77 : decode cX12_init 77 = .ok (.sipush 330, 3) := by decide +kernel
theorem dX12_init_80 : decode cX12_init 80 = .ok (.newarray .boolean, 2) := by decide +kernel
theorem dX12_init_82 : decode cX12_init 82 = .ok (.putfield 39, 3) := by decide +kernel
theorem dX12_init_85 : decode cX12_init 85 = .ok (.aload_n 0, 1) := by decide +kernel
theorem dX12_init_86 : decode cX12_init 86 = .ok (.iconst 1, 1) := by decide +kernel
theorem dX12_init_87 : decode cX12_init 87 = .ok (.putfield 43, 3) := by decide +kernel
theorem dX12_init_90 : decode cX12_init 90 = .ok (.aload_n 0, 1) := by decide +kernel
theorem dX12_init_91 : decode cX12_init 91 = .ok (.bipush 20, 2) := by decide +kernel
theorem dX12_init_93 : decode cX12_init 93 = .ok (.newarray .int, 2) := by decide +kernel
theorem dX12_init_95 : decode cX12_init 95 = .ok (.putfield 47, 3) := by decide +kernel
theorem dX12_init_98 : decode cX12_init 98 = .ok (.aload_n 0, 1) := by decide +kernel
theorem dX12_init_99 : decode cX12_init 99 = .ok (.bipush 6, 2) := by decide +kernel
theorem dX12_init_101 : decode cX12_init 101 = .ok (.newarray .int, 2) := by decide +kernel
theorem dX12_init_103 : decode cX12_init 103 = .ok (.putfield 50, 3) := by decide +kernel
theorem dX12_init_106 : decode cX12_init 106 = .ok (.aload_n 0, 1) := by decide +kernel
theorem dX12_init_107 : decode cX12_init 107 = .ok (.bipush 6, 2) := by decide +kernel
theorem dX12_init_109 : decode cX12_init 109 = .ok (.newarray .int, 2) := by decide +kernel
theorem dX12_init_111 : decode cX12_init 111 = .ok (.putfield 53, 3) := by decide +kernel
theorem dX12_init_114 : decode cX12_init 114 = .ok (.aload_n 0, 1) := by decide +kernel
theorem dX12_init_115 : decode cX12_init 115 = .ok (.bipush 24, 2) := by decide +kernel
theorem dX12_init_117 : decode cX12_init 117 = .ok (.newarray .int, 2) := by decide +kernel
theorem dX12_init_119 : decode cX12_init 119 = .ok (.putfield 56, 3) := by decide +kernel
theorem dX12_init_122 : decode cX12_init 122 = .ok (.aload_n 0, 1) := by decide +kernel
theorem dX12_init_123 : decode cX12_init 123 = .ok (.bipush 24, 2) := by decide +kernel
theorem dX12_init_125 : decode cX12_init 125 = .ok (.newarray .int, 2) := by decide +kernel
theorem dX12_init_127 : decode cX12_init 127 = .ok (.putfield 59, 3) := by decide +kernel
theorem dX12_init_130 : decode cX12_init 130 = .ok (.aload_n 0, 1) := by decide +kernel
theorem dX12_init_131 : decode cX12_init 131 = .ok (.ldc 62, 2) := by decide +kernel
theorem dX12_init_133 : decode cX12_init 133 = .ok (.newarray .boolean, 2) := by decide +kernel
theorem dX12_init_135 : decode cX12_init 135 = .ok (.putfield 63, 3) := by decide +kernel
theorem dX12_init_138 : decode cX12_init 138 = .ok (.aload_n 0, 1) := by decide +kernel
theorem dX12_init_139 : decode cX12_init 139 = .ok (.bipush 16, 2) := by decide +kernel
theorem dX12_init_141 : decode cX12_init 141 = .ok (.newarray .int, 2) := by decide +kernel
theorem dX12_init_143 : decode cX12_init 143 = .ok (.putfield 66, 3) := by decide +kernel
theorem dX12_init_146 : decode cX12_init 146 = .ok (.aload_n 0, 1) := by decide +kernel
theorem dX12_init_147 : decode cX12_init 147 = .ok (.iconst 5, 1) := by decide +kernel
theorem dX12_init_148 : decode cX12_init 148 = .ok (.newarray .int, 2) := by decide +kernel
theorem dX12_init_150 : decode cX12_init 150 = .ok (.putfield 69, 3) := by decide +kernel
theorem dX12_init_153 : decode cX12_init 153 = .ok (.aload_n 0, 1) := by decide +kernel
theorem dX12_init_154 : decode cX12_init 154 = .ok (.iconst 5, 1) := by decide +kernel
theorem dX12_init_155 : decode cX12_init 155 = .ok (.newarray .int, 2) := by decide +kernel
theorem dX12_init_157 : decode cX12_init 157 = .ok (.putfield 72, 3) := by decide +kernel
theorem dX12_init_160 : decode cX12_init 160 = .ok (.aload_n 0, 1) := by decide +kernel
theorem dX12_init_161 : decode cX12_init 161 = .ok (.sipush 256, 3) := by decide +kernel
theorem dX12_init_164 : decode cX12_init 164 = .ok (.newarray .int, 2) := by decide +kernel
theorem dX12_init_166 : decode cX12_init 166 = .ok (.putfield 75, 3) := by decide +kernel
theorem dX12_init_169 : decode cX12_init 169 = .ok (.aload_n 0, 1) := by decide +kernel
theorem dX12_init_170 : decode cX12_init 170 = .ok (.sipush 256, 3) := by decide +kernel
theorem dX12_init_173 : decode cX12_init 173 = .ok (.newarray .int, 2) := by decide +kernel
theorem dX12_init_175 : decode cX12_init 175 = .ok (.putfield 78, 3) := by decide +kernel
theorem dX12_init_178 : decode cX12_init 178 = .ok (.aload_n 0, 1) := by decide +kernel
theorem dX12_init_179 : decode cX12_init 179 = .ok (.getfield 7, 3) := by decide +kernel
theorem dX12_init_182 : decode cX12_init 182 = .ok (.bipush 9, 2) := by decide +kernel
theorem dX12_init_184 : decode cX12_init 184 = .ok (.sipush 311, 3) := by decide +kernel
theorem dX12_init_187 : decode cX12_init 187 = .ok (.iastore, 1) := by decide +kernel
theorem dX12_init_188 : decode cX12_init 188 = .ok (.aload_n 0, 1) := by decide +kernel
theorem dX12_init_189 : decode cX12_init 189 = .ok (.getfield 7, 3) := by decide +kernel
theorem dX12_init_192 : decode cX12_init 192 = .ok (.iconst 1, 1) := by decide +kernel
theorem dX12_init_193 : decode cX12_init 193 = .ok (.iconst 2, 1) := by decide +kernel
theorem dX12_init_194 : decode cX12_init 194 = .ok (.iastore, 1) := by decide +kernel
theorem dX12_init_195 : decode cX12_init 195 = .ok (.aload_n 0, 1) := by decide +kernel
theorem dX12_init_196 : decode cX12_init 196 = .ok (.getfield 7, 3) := by decide +kernel
theorem dX12_init_199 : decode cX12_init 199 = .ok (.iconst 3, 1) := by decide +kernel
theorem dX12_init_200 : decode cX12_init 200 = .ok (.iconst (-1), 1) := by decide +kernel
theorem dX12_init_201 : decode cX12_init 201 = .ok (.iastore, 1) := by decide +kernel
theorem dX12_init_202 : decode cX12_init 202 = .ok (.aload_n 0, 1) := by decide +kernel
theorem dX12_init_203 : decode cX12_init 203 = .ok (.getfield 7, 3) := by decide +kernel
theorem dX12_init_206 : decode cX12_init 206 = .ok (.aload_n 0, 1) := by decide +kernel
theorem dX12_init_207 : decode cX12_init 207 = .ok (.getfield 13, 3) := by decide +kernel
theorem dX12_init_210 : decode cX12_init 210 = .ok (.invokestatic 81, 3) := by decide +kernel
theorem dX12_init_213 : decode cX12_init 213 = .ok (.aload_n 0, 1) := by decide +kernel
theorem dX12_init_214 : decode cX12_init 214 = .ok (.invokevirtual 85, 3) := by decide +kernel
theorem dX12_init_217 : decode cX12_init 217 = .ok (.return_, 1) := by decide +kernel
def i_Md (μ : Mm) : Mm := (zsr (zclr (zsr (zclr (zsr (zclr (zsr (zclr (zsr (zclr (zsr (zclr (zsr (zclr (zsr (zclr (zsr (zclr (zsr (zclr (zsr (zclr (zsi (zsr (zclr (zsr (zclr (zsr (zclr (zsr (zclr (zsi (zsi (zsr (zclr (zsr (zclr (zsr (zclr (zsr (zclr μ 314) 313 0 (some 314)) 315) 313 1 (some 315)) 316) 313 2 (some 316)) 317) 313 3 (some 317)) 313 5 (-1 : Int32)) 313 6 (-1 : Int32)) 318) 313 15 (some 318)) 319) 313 20 (some 319)) 320) 313 21 (some 320)) 321) 313 22 (some 321)) 313 23 (1 : Int32)) 322) 313 25 (some 322)) 323) 313 26 (some 323)) 324) 313 27 (some 324)) 325) 313 28 (some 325)) 326) 313 29 (some 326)) 327) 313 30 (some 327)) 328) 313 31 (some 328)) 329) 313 33 (some 329)) 330) 313 34 (some 330)) 331) 313 35 (some 331)) 332) 313 36 (some 332))

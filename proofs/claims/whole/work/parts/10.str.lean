-- jdk.internal.util.Preconditions.checkIndex, java.lang.String.checkIndex: by hand
theorem dJ3_checkIndex_8e157_0 : decode cJ3_checkIndex_8e157 0 = .ok (.iload_n 0, 1) := by decide +kernel
theorem dJ3_checkIndex_8e157_1 : decode cJ3_checkIndex_8e157 1 = .ok (.ifCond .lt 8, 3) := by decide +kernel
theorem dJ3_checkIndex_8e157_4 : decode cJ3_checkIndex_8e157 4 = .ok (.iload_n 0, 1) := by decide +kernel
theorem dJ3_checkIndex_8e157_5 : decode cJ3_checkIndex_8e157 5 = .ok (.iload_n 1, 1) := by decide +kernel
theorem dJ3_checkIndex_8e157_6 : decode cJ3_checkIndex_8e157 6 = .ok (.if_icmp .lt 10, 3) := by decide +kernel
theorem dJ3_checkIndex_8e157_9 : decode cJ3_checkIndex_8e157 9 = .ok (.aload_n 2, 1) := by decide +kernel
theorem dJ3_checkIndex_8e157_10 : decode cJ3_checkIndex_8e157 10 = .ok (.iload_n 0, 1) := by decide +kernel
theorem dJ3_checkIndex_8e157_11 : decode cJ3_checkIndex_8e157 11 = .ok (.iload_n 1, 1) := by decide +kernel
theorem dJ3_checkIndex_8e157_12 : decode cJ3_checkIndex_8e157 12 = .ok (.invokestatic 95, 3) := by decide +kernel
theorem dJ3_checkIndex_8e157_15 : decode cJ3_checkIndex_8e157 15 = .ok (.athrow, 1) := by decide +kernel
theorem dJ3_checkIndex_8e157_16 : decode cJ3_checkIndex_8e157 16 = .ok (.iload_n 0, 1) := by decide +kernel
theorem dJ3_checkIndex_8e157_17 : decode cJ3_checkIndex_8e157 17 = .ok (.ireturn, 1) := by decide +kernel
theorem dJ0_checkIndex_df160_0 : decode cJ0_checkIndex_df160 0 = .ok (.iload_n 0, 1) := by decide +kernel
theorem dJ0_checkIndex_df160_1 : decode cJ0_checkIndex_df160 1 = .ok (.iload_n 1, 1) := by decide +kernel
theorem dJ0_checkIndex_df160_2 : decode cJ0_checkIndex_df160 2 = .ok (.getstatic 1053, 3) := by decide +kernel
theorem dJ0_checkIndex_df160_5 : decode cJ0_checkIndex_df160 5 = .ok (.invokestatic 1059, 3) := by decide +kernel
theorem dJ0_checkIndex_df160_8 : decode cJ0_checkIndex_df160 8 = .ok (.pop, 1) := by decide +kernel
theorem dJ0_checkIndex_df160_9 : decode cJ0_checkIndex_df160 9 = .ok (.return_, 1) := by decide +kernel
theorem t_Jp_checkIndex {g : GG} {d : Nat} {μ : Mm} {x0 x1 : Int32} {v : Value} (h0 : ¬ x0 < 0) (h1 : x0 < x1) : Z g d (0, 0) mJ3_checkIndex_8e157 333 0 0 0 [(0, .int x0), (1, .int x1), (2, v)] [] μ (zF g (some (.int x0), μ)) := by
  refine z_iload_n dJ3_checkIndex_8e157_0 0 rfl ?_
  refine z_if_lt 9 dJ3_checkIndex_8e157_1 rfl (fun h => absurd h h0) (fun _ => ?_)
  refine z_iload_n dJ3_checkIndex_8e157_4 0 rfl ?_
  refine z_iload_n dJ3_checkIndex_8e157_5 1 rfl ?_
  refine z_icmp_lt 16 dJ3_checkIndex_8e157_6 rfl (fun _ => ?_) (fun h => absurd h1 h)
  refine z_iload_n dJ3_checkIndex_8e157_16 0 rfl ?_
  exact z_iret dJ3_checkIndex_8e157_17 rfl
theorem ct_Jp_checkIndex {g : GG} {d : Nat} {μ : Mm} {x0 x1 : Int32} {v : Value} (hv : v = .null ∨ v = .ref 1006) (h0 : ¬ x0 < 0) (h1 : x0 < x1) : Ct g d mJ3_checkIndex_8e157 [.int x0, .int x1, v] μ (some (.int x0), μ) := by
  rcases hv with rfl | rfl
  · exact y_entry in_J3_checkIndex_8e157 (Nat.le_of_ble_eq_true rfl) rfl (t_Jp_checkIndex h0 h1)
  · exact y_entry in_J3_checkIndex_8e157 (Nat.le_of_ble_eq_true rfl) rfl (t_Jp_checkIndex h0 h1)
def Js_checkIndex (x0 x1 : Int32) : Option Unit := if x0 < 0 then none else if x0 < x1 then some () else none
theorem ct_Js_checkIndex {g : GG} {d : Nat} {x0 x1 : Int32} {μ : Mm} {r : Unit} (hd0 : 2 ≤ d) (h : Js_checkIndex x0 x1 = some r) : Ct g d mJ0_checkIndex_df160 [.int x0, .int x1] μ (none, μ) := by
  obtain ⟨h0, h⟩ := oifn h
  have h1 : x0 < x1 := by
    rcases Decidable.em (x0 < x1) with q | q
    · exact q
    · rw [if_neg q] at h; cases h
  refine y_entry in_J0_checkIndex_df160 (Nat.le_of_ble_eq_true rfl) rfl ?_
  refine z_iload_n dJ0_checkIndex_df160_0 0 rfl ?_
  refine z_iload_n dJ0_checkIndex_df160_1 1 rfl ?_
  refine y_fmt dJ0_checkIndex_df160_2 fmt_w (fun v hv => ?_)
  refine y_Si (d2 := d - 1) (As := [.int x0, .int x1, v]) (st := []) dJ0_checkIndex_df160_5 mlRJ0_1059 cv_J3_checkIndex_8e157 (ct_Jp_checkIndex hv h0 h1) (by omega) rfl rfl (Nat.le_of_ble_eq_true rfl) ?_
  refine z_pop dJ0_checkIndex_df160_8 rfl ?_
  exact z_vret dJ0_checkIndex_df160_9 rfl

-- java/lang/String.coder()B
theorem dJ0_coder_7d493_0 : decode cJ0_coder_7d493 0 = .ok (.getstatic 38, 3) := by decide +kernel
theorem dJ0_coder_7d493_3 : decode cJ0_coder_7d493 3 = .ok (.ifCond .eq 10, 3) := by decide +kernel
theorem dJ0_coder_7d493_6 : decode cJ0_coder_7d493 6 = .ok (.aload_n 0, 1) := by decide +kernel
theorem dJ0_coder_7d493_7 : decode cJ0_coder_7d493 7 = .ok (.getfield 15, 3) := by decide +kernel
theorem dJ0_coder_7d493_10 : decode cJ0_coder_7d493 10 = .ok (.goto 4, 3) := by decide +kernel
theorem dJ0_coder_7d493_13 : decode cJ0_coder_7d493 13 = .ok (.iconst 1, 1) := by decide +kernel
theorem dJ0_coder_7d493_14 : decode cJ0_coder_7d493 14 = .ok (.ireturn, 1) := by decide +kernel
def Js_coder (x0 : Nat) : Option Int32 :=
  (if (1 : Int32) = 0 then
    some (1 : Int32)
  else
    some (0 : Int32))
set_option maxRecDepth 100000 in
set_option maxHeartbeats 4000000 in
theorem t_Js_coder {g : GG} {d : Nat} {μ : Mm} (hd0 : 1 ≤ d) : ∀ (x0 : Nat) (r : Int32), x0 < 2 → Js_coder x0 = some r → Z g d (0, 0) mJ0_coder_7d493 333 0 0 0 [(0, .ref (1002 + x0))] [] μ (zF g (some (.int r), μ)) := by
  intro x0 r hq0 h
  unfold Js_coder at h
  refine y_compact dJ0_coder_7d493_0 cpt_w ?_
  refine z_if_eq 13 dJ0_coder_7d493_3 rfl (fun hc1 => ?_) (fun hc1 => ?_)
  · replace h := oT hc1 h
    refine z_iconst (M := mJ0_coder_7d493) (v := 1) dJ0_coder_7d493_13 rfl ?_
    cases h
    exact z_zret dJ0_coder_7d493_14 rfl rfl
  · replace h := oF hc1 h
    refine z_aload_n dJ0_coder_7d493_6 0 rfl ?_
    refine y_scod dJ0_coder_7d493_7 cod_w hq0 ?_
    refine z_goto 14 dJ0_coder_7d493_10 rfl ?_
    cases h
    exact z_zret dJ0_coder_7d493_14 rfl rfl
theorem ct_Js_coder {g : GG} {d : Nat} {x0 : Nat} {μ : Mm} {r : Int32} (hd0 : 1 ≤ d) (hq0 : x0 < 2) (h : Js_coder x0 = some r) : Ct g d mJ0_coder_7d493 [.ref (1002 + x0)] μ (some (.int r), μ) := y_entry in_J0_coder_7d493 (Nat.le_of_ble_eq_true rfl) rfl (t_Js_coder hd0 x0 r hq0 h)
-- java/lang/String.length()I
theorem dJ0_length_8abf5_0 : decode cJ0_length_8abf5 0 = .ok (.aload_n 0, 1) := by decide +kernel
theorem dJ0_length_8abf5_1 : decode cJ0_length_8abf5 1 = .ok (.getfield 9, 3) := by decide +kernel
theorem dJ0_length_8abf5_4 : decode cJ0_length_8abf5 4 = .ok (.arraylength, 1) := by decide +kernel
theorem dJ0_length_8abf5_5 : decode cJ0_length_8abf5 5 = .ok (.aload_n 0, 1) := by decide +kernel
theorem dJ0_length_8abf5_6 : decode cJ0_length_8abf5 6 = .ok (.invokevirtual 335, 3) := by decide +kernel
theorem dJ0_length_8abf5_9 : decode cJ0_length_8abf5 9 = .ok (.ishr, 1) := by decide +kernel
theorem dJ0_length_8abf5_10 : decode cJ0_length_8abf5 10 = .ok (.ireturn, 1) := by decide +kernel
def Js_length (x0 : Nat) : Option Int32 :=
  (Js_coder x0).bind fun v1 =>
  some ((Int32.ofNat (slen x0)) >>> (v1 &&& 31))
set_option maxRecDepth 100000 in
set_option maxHeartbeats 4000000 in
theorem t_Js_length {g : GG} {d : Nat} {μ : Mm} (hd0 : 2 ≤ d) : ∀ (x0 : Nat) (r : Int32), x0 < 2 → Js_length x0 = some r → Z g d (0, 0) mJ0_length_8abf5 333 0 0 0 [(0, .ref (1002 + x0))] [] μ (zF g (some (.int r), μ)) := by
  intro x0 r hq0 h
  unfold Js_length at h
  refine z_aload_n dJ0_length_8abf5_0 0 rfl ?_
  refine y_sval dJ0_length_8abf5_1 val_w hq0 ?_
  refine y_slen dJ0_length_8abf5_4 hq0 ?_
  refine z_aload_n dJ0_length_8abf5_5 0 rfl ?_
  obtain ⟨v1, he1, h⟩ := obind h
  refine y_Wi (M := mJ0_length_8abf5) (Y := mJ0_coder_7d493) (d2 := d - 1) (As := []) (st := [.int (Int32.ofNat (slen x0))]) dJ0_length_8abf5_6 mlRJ0_335 cv_J0_coder_7d493 hq0 (ct_Js_coder (dle (Nat.le_of_ble_eq_true rfl) hd0) hq0 he1) (dps (Nat.le_of_ble_eq_true rfl) hd0) rfl rfl (Nat.le_of_ble_eq_true rfl) ?_
  refine z_ishr dJ0_length_8abf5_9 ?_
  cases h
  exact z_iret dJ0_length_8abf5_10 rfl
theorem ct_Js_length {g : GG} {d : Nat} {x0 : Nat} {μ : Mm} {r : Int32} (hd0 : 2 ≤ d) (hq0 : x0 < 2) (h : Js_length x0 = some r) : Ct g d mJ0_length_8abf5 [.ref (1002 + x0)] μ (some (.int r), μ) := y_entry in_J0_length_8abf5 (Nat.le_of_ble_eq_true rfl) rfl (t_Js_length hd0 x0 r hq0 h)
-- java/lang/String.isLatin1()Z
theorem dJ0_isLatin1_aae02_0 : decode cJ0_isLatin1_aae02 0 = .ok (.getstatic 38, 3) := by decide +kernel
theorem dJ0_isLatin1_aae02_3 : decode cJ0_isLatin1_aae02 3 = .ok (.ifCond .eq 14, 3) := by decide +kernel
theorem dJ0_isLatin1_aae02_6 : decode cJ0_isLatin1_aae02 6 = .ok (.aload_n 0, 1) := by decide +kernel
theorem dJ0_isLatin1_aae02_7 : decode cJ0_isLatin1_aae02 7 = .ok (.getfield 15, 3) := by decide +kernel
theorem dJ0_isLatin1_aae02_10 : decode cJ0_isLatin1_aae02 10 = .ok (.ifCond .ne 7, 3) := by decide +kernel
theorem dJ0_isLatin1_aae02_13 : decode cJ0_isLatin1_aae02 13 = .ok (.iconst 1, 1) := by decide +kernel
theorem dJ0_isLatin1_aae02_14 : decode cJ0_isLatin1_aae02 14 = .ok (.goto 4, 3) := by decide +kernel
theorem dJ0_isLatin1_aae02_17 : decode cJ0_isLatin1_aae02 17 = .ok (.iconst 0, 1) := by decide +kernel
theorem dJ0_isLatin1_aae02_18 : decode cJ0_isLatin1_aae02 18 = .ok (.ireturn, 1) := by decide +kernel
def Js_isLatin1 (x0 : Nat) : Option Bool :=
  (if (1 : Int32) = 0 then
    some false
  else
    (if ¬ (0 : Int32) = 0 then
      some false
    else
      some true))
set_option maxRecDepth 100000 in
set_option maxHeartbeats 4000000 in
theorem t_Js_isLatin1 {g : GG} {d : Nat} {μ : Mm} (hd0 : 1 ≤ d) : ∀ (x0 : Nat) (r : Bool), x0 < 2 → Js_isLatin1 x0 = some r → Z g d (0, 0) mJ0_isLatin1_aae02 333 0 0 0 [(0, .ref (1002 + x0))] [] μ (zF g (some (.int (b2i r)), μ)) := by
  intro x0 r hq0 h
  unfold Js_isLatin1 at h
  refine y_compact dJ0_isLatin1_aae02_0 cpt_w ?_
  refine z_if_eq 17 dJ0_isLatin1_aae02_3 rfl (fun hc1 => ?_) (fun hc1 => ?_)
  · replace h := oT hc1 h
    refine z_iconst (M := mJ0_isLatin1_aae02) (v := 0) dJ0_isLatin1_aae02_17 rfl ?_
    cases h
    exact z_zret dJ0_isLatin1_aae02_18 rfl rfl
  · replace h := oF hc1 h
    refine z_aload_n dJ0_isLatin1_aae02_6 0 rfl ?_
    refine y_scod dJ0_isLatin1_aae02_7 cod_w hq0 ?_
    refine z_if_ne 17 dJ0_isLatin1_aae02_10 rfl (fun hc2 => ?_) (fun hc2 => ?_)
    · replace h := oT hc2 h
      refine z_iconst (M := mJ0_isLatin1_aae02) (v := 0) dJ0_isLatin1_aae02_17 rfl ?_
      cases h
      exact z_zret dJ0_isLatin1_aae02_18 rfl rfl
    · replace h := oFn hc2 h
      refine z_iconst (M := mJ0_isLatin1_aae02) (v := 1) dJ0_isLatin1_aae02_13 rfl ?_
      refine z_goto 18 dJ0_isLatin1_aae02_14 rfl ?_
      cases h
      exact z_zret dJ0_isLatin1_aae02_18 rfl rfl
theorem ct_Js_isLatin1 {g : GG} {d : Nat} {x0 : Nat} {μ : Mm} {r : Bool} (hd0 : 1 ≤ d) (hq0 : x0 < 2) (h : Js_isLatin1 x0 = some r) : Ct g d mJ0_isLatin1_aae02 [.ref (1002 + x0)] μ (some (.int (b2i r)), μ) := y_entry in_J0_isLatin1_aae02 (Nat.le_of_ble_eq_true rfl) rfl (t_Js_isLatin1 hd0 x0 r hq0 h)
-- java/lang/StringLatin1.charAt([BI)C
theorem dJ1_charAt_3b067_0 : decode cJ1_charAt_3b067 0 = .ok (.iload_n 1, 1) := by decide +kernel
theorem dJ1_charAt_3b067_1 : decode cJ1_charAt_3b067 1 = .ok (.aload_n 0, 1) := by decide +kernel
theorem dJ1_charAt_3b067_2 : decode cJ1_charAt_3b067 2 = .ok (.arraylength, 1) := by decide +kernel
theorem dJ1_charAt_3b067_3 : decode cJ1_charAt_3b067 3 = .ok (.invokestatic 9, 3) := by decide +kernel
theorem dJ1_charAt_3b067_6 : decode cJ1_charAt_3b067 6 = .ok (.aload_n 0, 1) := by decide +kernel
theorem dJ1_charAt_3b067_7 : decode cJ1_charAt_3b067 7 = .ok (.iload_n 1, 1) := by decide +kernel
theorem dJ1_charAt_3b067_8 : decode cJ1_charAt_3b067 8 = .ok (.baload, 1) := by decide +kernel
theorem dJ1_charAt_3b067_9 : decode cJ1_charAt_3b067 9 = .ok (.sipush 255, 3) := by decide +kernel
theorem dJ1_charAt_3b067_12 : decode cJ1_charAt_3b067 12 = .ok (.iand, 1) := by decide +kernel
theorem dJ1_charAt_3b067_13 : decode cJ1_charAt_3b067 13 = .ok (.i2c, 1) := by decide +kernel
theorem dJ1_charAt_3b067_14 : decode cJ1_charAt_3b067 14 = .ok (.ireturn, 1) := by decide +kernel
def Jl_charAt (x0 : Nat) (x1 : Int32) : Option Int32 :=
  (Js_checkIndex x1 (Int32.ofNat (slen x0))).bind fun v1 =>
  if inb x1 (slen x0) then
  some (((sbyt x0 x1.toNatClampNeg) &&& (255 : Int32)).toUInt32 % 65536).toInt32
  else none
set_option maxRecDepth 100000 in
set_option maxHeartbeats 4000000 in
theorem t_Jl_charAt {g : GG} {d : Nat} {μ : Mm} (hd0 : 4 ≤ d) : ∀ (x0 : Nat) (x1 : Int32) (r : Int32), x0 < 2 → Jl_charAt x0 x1 = some r → Z g d (0, 0) mJ1_charAt_3b067 333 0 0 0 [(0, .ref (1004 + x0)), (1, .int x1)] [] μ (zF g (some (.int r), μ)) := by
  intro x0 x1 r hq0 h
  unfold Jl_charAt at h
  refine z_iload_n dJ1_charAt_3b067_0 1 rfl ?_
  refine z_aload_n dJ1_charAt_3b067_1 0 rfl ?_
  refine y_slen dJ1_charAt_3b067_2 hq0 ?_
  obtain ⟨v1, he1, h⟩ := obind h
  refine y_Sv (M := mJ1_charAt_3b067) (Y := mJ0_checkIndex_df160) (d2 := d - 1) (As := [.int x1, .int (Int32.ofNat (slen x0))]) (st := []) dJ1_charAt_3b067_3 mlRJ1_9 cv_J0_checkIndex_df160 (ct_Js_checkIndex (dle (Nat.le_of_ble_eq_true rfl) hd0) he1) (dps (Nat.le_of_ble_eq_true rfl) hd0) rfl rfl (Nat.le_of_ble_eq_true rfl) ?_
  refine z_aload_n dJ1_charAt_3b067_6 0 rfl ?_
  refine z_iload_n dJ1_charAt_3b067_7 1 rfl ?_
  obtain ⟨hi2, h⟩ := oif h
  refine y_sbyt dJ1_charAt_3b067_8 hq0 hi2 ?_
  refine z_sipush (M := mJ1_charAt_3b067) (v := 255) dJ1_charAt_3b067_9 rfl ?_
  refine z_iand dJ1_charAt_3b067_12 ?_
  refine z_i2c dJ1_charAt_3b067_13 ?_
  cases h
  exact z_zret dJ1_charAt_3b067_14 rfl (pk_nc _)
theorem ct_Jl_charAt {g : GG} {d : Nat} {x0 : Nat} {x1 : Int32} {μ : Mm} {r : Int32} (hd0 : 4 ≤ d) (hq0 : x0 < 2) (h : Jl_charAt x0 x1 = some r) : Ct g d mJ1_charAt_3b067 [.ref (1004 + x0), .int x1] μ (some (.int r), μ) := y_entry in_J1_charAt_3b067 (Nat.le_of_ble_eq_true rfl) rfl (t_Jl_charAt hd0 x0 x1 r hq0 h)
-- java/lang/String.charAt(I)C
theorem dJ0_charAt_5068e_0 : decode cJ0_charAt_5068e 0 = .ok (.aload_n 0, 1) := by decide +kernel
theorem dJ0_charAt_5068e_1 : decode cJ0_charAt_5068e 1 = .ok (.invokevirtual 492, 3) := by decide +kernel
theorem dJ0_charAt_5068e_4 : decode cJ0_charAt_5068e 4 = .ok (.ifCond .eq 12, 3) := by decide +kernel
theorem dJ0_charAt_5068e_7 : decode cJ0_charAt_5068e 7 = .ok (.aload_n 0, 1) := by decide +kernel
theorem dJ0_charAt_5068e_8 : decode cJ0_charAt_5068e 8 = .ok (.getfield 9, 3) := by decide +kernel
theorem dJ0_charAt_5068e_11 : decode cJ0_charAt_5068e 11 = .ok (.iload_n 1, 1) := by decide +kernel
theorem dJ0_charAt_5068e_12 : decode cJ0_charAt_5068e 12 = .ok (.invokestatic 495, 3) := by decide +kernel
theorem dJ0_charAt_5068e_15 : decode cJ0_charAt_5068e 15 = .ok (.ireturn, 1) := by decide +kernel
theorem dJ0_charAt_5068e_16 : decode cJ0_charAt_5068e 16 = .ok (.aload_n 0, 1) := by decide +kernel
theorem dJ0_charAt_5068e_17 : decode cJ0_charAt_5068e 17 = .ok (.getfield 9, 3) := by decide +kernel
theorem dJ0_charAt_5068e_20 : decode cJ0_charAt_5068e 20 = .ok (.iload_n 1, 1) := by decide +kernel
theorem dJ0_charAt_5068e_21 : decode cJ0_charAt_5068e 21 = .ok (.invokestatic 498, 3) := by decide +kernel
theorem dJ0_charAt_5068e_24 : decode cJ0_charAt_5068e 24 = .ok (.ireturn, 1) := by decide +kernel
def Js_charAt (x0 : Nat) (x1 : Int32) : Option Int32 :=
  (Js_isLatin1 x0).bind fun v1 =>
  (if (b2i v1) = 0 then
    none
  else
    (Jl_charAt x0 x1).bind fun v3 =>
    if zch v3 then
    some v3
    else none)
set_option maxRecDepth 100000 in
set_option maxHeartbeats 4000000 in
theorem t_Js_charAt {g : GG} {d : Nat} {μ : Mm} (hd0 : 5 ≤ d) : ∀ (x0 : Nat) (x1 : Int32) (r : Int32), x0 < 2 → Js_charAt x0 x1 = some r → Z g d (0, 0) mJ0_charAt_5068e 333 0 0 0 [(0, .ref (1002 + x0)), (1, .int x1)] [] μ (zF g (some (.int r), μ)) := by
  intro x0 x1 r hq0 h
  unfold Js_charAt at h
  refine z_aload_n dJ0_charAt_5068e_0 0 rfl ?_
  obtain ⟨v1, he1, h⟩ := obind h
  refine y_Wi (M := mJ0_charAt_5068e) (Y := mJ0_isLatin1_aae02) (d2 := d - 1) (As := []) (st := []) dJ0_charAt_5068e_1 mlRJ0_492 cv_J0_isLatin1_aae02 hq0 (ct_Js_isLatin1 (dle (Nat.le_of_ble_eq_true rfl) hd0) hq0 he1) (dps (Nat.le_of_ble_eq_true rfl) hd0) rfl rfl (Nat.le_of_ble_eq_true rfl) ?_
  refine z_if_eq 16 dJ0_charAt_5068e_4 rfl (fun hc2 => ?_) (fun hc2 => ?_)
  · replace h := oT hc2 h
    refine z_aload_n dJ0_charAt_5068e_16 0 rfl ?_
    refine y_sval dJ0_charAt_5068e_17 val_w hq0 ?_
    refine z_iload_n dJ0_charAt_5068e_20 1 rfl ?_
    cases h
  · replace h := oF hc2 h
    refine z_aload_n dJ0_charAt_5068e_7 0 rfl ?_
    refine y_sval dJ0_charAt_5068e_8 val_w hq0 ?_
    refine z_iload_n dJ0_charAt_5068e_11 1 rfl ?_
    obtain ⟨v3, he3, h⟩ := obind h
    refine y_Si (M := mJ0_charAt_5068e) (Y := mJ1_charAt_3b067) (d2 := d - 1) (As := [.ref (1004 + x0), .int x1]) (st := []) dJ0_charAt_5068e_12 mlRJ0_495 cv_J1_charAt_3b067 (ct_Jl_charAt (dle (Nat.le_of_ble_eq_true rfl) hd0) hq0 he3) (dps (Nat.le_of_ble_eq_true rfl) hd0) rfl rfl (Nat.le_of_ble_eq_true rfl) ?_
    obtain ⟨hy4, h⟩ := oif h
    cases h
    exact z_zret dJ0_charAt_5068e_15 rfl (zch_nar hy4)
theorem ct_Js_charAt {g : GG} {d : Nat} {x0 : Nat} {x1 : Int32} {μ : Mm} {r : Int32} (hd0 : 5 ≤ d) (hq0 : x0 < 2) (h : Js_charAt x0 x1 = some r) : Ct g d mJ0_charAt_5068e [.ref (1002 + x0), .int x1] μ (some (.int r), μ) := y_entry in_J0_charAt_5068e (Nat.le_of_ble_eq_true rfl) rfl (t_Js_charAt hd0 x0 x1 r hq0 h)
-- java/lang/StringLatin1.canEncode(I)Z
theorem dJ1_canEncode_9a6ad_0 : decode cJ1_canEncode_9a6ad 0 = .ok (.iload_n 0, 1) := by decide +kernel
theorem dJ1_canEncode_9a6ad_1 : decode cJ1_canEncode_9a6ad 1 = .ok (.ifCond .lt 14, 3) := by decide +kernel
theorem dJ1_canEncode_9a6ad_4 : decode cJ1_canEncode_9a6ad 4 = .ok (.iload_n 0, 1) := by decide +kernel
theorem dJ1_canEncode_9a6ad_5 : decode cJ1_canEncode_9a6ad 5 = .ok (.sipush 255, 3) := by decide +kernel
theorem dJ1_canEncode_9a6ad_8 : decode cJ1_canEncode_9a6ad 8 = .ok (.if_icmp .gt 7, 3) := by decide +kernel
theorem dJ1_canEncode_9a6ad_11 : decode cJ1_canEncode_9a6ad 11 = .ok (.iconst 1, 1) := by decide +kernel
theorem dJ1_canEncode_9a6ad_12 : decode cJ1_canEncode_9a6ad 12 = .ok (.goto 4, 3) := by decide +kernel
theorem dJ1_canEncode_9a6ad_15 : decode cJ1_canEncode_9a6ad 15 = .ok (.iconst 0, 1) := by decide +kernel
theorem dJ1_canEncode_9a6ad_16 : decode cJ1_canEncode_9a6ad 16 = .ok (.ireturn, 1) := by decide +kernel
def Jl_canEncode (x0 : Int32) : Option Bool :=
  (if x0 < 0 then
    some false
  else
    (if (255 : Int32) < x0 then
      some false
    else
      some true))
set_option maxRecDepth 100000 in
set_option maxHeartbeats 4000000 in
theorem t_Jl_canEncode {g : GG} {d : Nat} {μ : Mm} (hd0 : 1 ≤ d) : ∀ (x0 : Int32) (r : Bool), Jl_canEncode x0 = some r → Z g d (0, 0) mJ1_canEncode_9a6ad 333 0 0 0 [(0, .int x0)] [] μ (zF g (some (.int (b2i r)), μ)) := by
  intro x0 r h
  unfold Jl_canEncode at h
  refine z_iload_n dJ1_canEncode_9a6ad_0 0 rfl ?_
  refine z_if_lt 15 dJ1_canEncode_9a6ad_1 rfl (fun hc1 => ?_) (fun hc1 => ?_)
  · replace h := oT hc1 h
    refine z_iconst (M := mJ1_canEncode_9a6ad) (v := 0) dJ1_canEncode_9a6ad_15 rfl ?_
    cases h
    exact z_zret dJ1_canEncode_9a6ad_16 rfl rfl
  · replace h := oF hc1 h
    refine z_iload_n dJ1_canEncode_9a6ad_4 0 rfl ?_
    refine z_sipush (M := mJ1_canEncode_9a6ad) (v := 255) dJ1_canEncode_9a6ad_5 rfl ?_
    refine z_icmp_gt 15 dJ1_canEncode_9a6ad_8 rfl (fun hc2 => ?_) (fun hc2 => ?_)
    · replace h := oT hc2 h
      refine z_iconst (M := mJ1_canEncode_9a6ad) (v := 0) dJ1_canEncode_9a6ad_15 rfl ?_
      cases h
      exact z_zret dJ1_canEncode_9a6ad_16 rfl rfl
    · replace h := oF hc2 h
      refine z_iconst (M := mJ1_canEncode_9a6ad) (v := 1) dJ1_canEncode_9a6ad_11 rfl ?_
      refine z_goto 16 dJ1_canEncode_9a6ad_12 rfl ?_
      cases h
      exact z_zret dJ1_canEncode_9a6ad_16 rfl rfl
theorem ct_Jl_canEncode {g : GG} {d : Nat} {x0 : Int32} {μ : Mm} {r : Bool} (hd0 : 1 ≤ d)  (h : Jl_canEncode x0 = some r) : Ct g d mJ1_canEncode_9a6ad [.int x0] μ (some (.int (b2i r)), μ) := y_entry in_J1_canEncode_9a6ad (Nat.le_of_ble_eq_true rfl) rfl (t_Jl_canEncode hd0 x0 r h)
-- java/lang/StringLatin1.indexOfChar([BIII)I
theorem dJ1_indexOfChar_4cfef_0 : decode cJ1_indexOfChar_4cfef 0 = .ok (.iload_n 1, 1) := by decide +kernel
theorem dJ1_indexOfChar_4cfef_1 : decode cJ1_indexOfChar_4cfef 1 = .ok (.i2b, 1) := by decide +kernel
theorem dJ1_indexOfChar_4cfef_2 : decode cJ1_indexOfChar_4cfef 2 = .ok (.istore 4, 2) := by decide +kernel
theorem dJ1_indexOfChar_4cfef_4 : decode cJ1_indexOfChar_4cfef 4 = .ok (.iload_n 2, 1) := by decide +kernel
theorem dJ1_indexOfChar_4cfef_5 : decode cJ1_indexOfChar_4cfef 5 = .ok (.istore 5, 2) := by decide +kernel
theorem dJ1_indexOfChar_4cfef_7 : decode cJ1_indexOfChar_4cfef 7 = .ok (.iload 5, 2) := by decide +kernel
theorem dJ1_indexOfChar_4cfef_9 : decode cJ1_indexOfChar_4cfef 9 = .ok (.iload_n 3, 1) := by decide +kernel
theorem dJ1_indexOfChar_4cfef_10 : decode cJ1_indexOfChar_4cfef 10 = .ok (.if_icmp .ge 21, 3) := by decide +kernel
theorem dJ1_indexOfChar_4cfef_13 : decode cJ1_indexOfChar_4cfef 13 = .ok (.aload_n 0, 1) := by decide +kernel
theorem dJ1_indexOfChar_4cfef_14 : decode cJ1_indexOfChar_4cfef 14 = .ok (.iload 5, 2) := by decide +kernel
theorem dJ1_indexOfChar_4cfef_16 : decode cJ1_indexOfChar_4cfef 16 = .ok (.baload, 1) := by decide +kernel
theorem dJ1_indexOfChar_4cfef_17 : decode cJ1_indexOfChar_4cfef 17 = .ok (.iload 4, 2) := by decide +kernel
theorem dJ1_indexOfChar_4cfef_19 : decode cJ1_indexOfChar_4cfef 19 = .ok (.if_icmp .ne 6, 3) := by decide +kernel
theorem dJ1_indexOfChar_4cfef_22 : decode cJ1_indexOfChar_4cfef 22 = .ok (.iload 5, 2) := by decide +kernel
theorem dJ1_indexOfChar_4cfef_24 : decode cJ1_indexOfChar_4cfef 24 = .ok (.ireturn, 1) := by decide +kernel
theorem dJ1_indexOfChar_4cfef_25 : decode cJ1_indexOfChar_4cfef 25 = .ok (.iinc 5 1, 3) := by decide +kernel
theorem dJ1_indexOfChar_4cfef_28 : decode cJ1_indexOfChar_4cfef 28 = .ok (.goto (-21), 3) := by decide +kernel
theorem dJ1_indexOfChar_4cfef_31 : decode cJ1_indexOfChar_4cfef 31 = .ok (.iconst (-1), 1) := by decide +kernel
theorem dJ1_indexOfChar_4cfef_32 : decode cJ1_indexOfChar_4cfef 32 = .ok (.ireturn, 1) := by decide +kernel
def Jl_indexOfChar_7 : Nat → Nat → Int32 → Int32 → Int32 → Option Int32
  | 0, _, _, _, _ => none
  | f + 1, x0, x3, x4, x5 =>
    (if x3 ≤ x5 then
      some (-1 : Int32)
    else
      if inb x5 (slen x0) then
      (if ¬ (sbyt x0 x5.toNatClampNeg) = x4 then
        (Jl_indexOfChar_7 f) x0 x3 x4 (x5 + (1 : Int32))
      else
        some x5)
      else none)
set_option maxRecDepth 100000 in
set_option maxHeartbeats 4000000 in
theorem t_Jl_indexOfChar_7 {g : GG} {d : Nat} {μ : Mm} (hd0 : 1 ≤ d) : ∀ (f : Nat), ∀ (x0 : Nat) (x3 : Int32) (x4 : Int32) (x5 : Int32) (r : Int32), x0 < 2 → Jl_indexOfChar_7 f x0 x3 x4 x5 = some r → Z g d (0, 0) mJ1_indexOfChar_4cfef 333 0 0 7 [(0, .ref (1004 + x0)), (3, .int x3), (4, .int x4), (5, .int x5)] [] μ (zF g (some (.int r), μ)) := by
  intro f
  induction f with
  | zero =>
    intro x0 x3 x4 x5 r hq0 h
    cases h
  | succ f ih =>
    intro x0 x3 x4 x5 r hq0 h
    rw [Jl_indexOfChar_7] at h
    refine z_iload dJ1_indexOfChar_4cfef_7 3 rfl ?_
    refine z_iload_n dJ1_indexOfChar_4cfef_9 1 rfl ?_
    refine z_icmp_ge 31 dJ1_indexOfChar_4cfef_10 rfl (fun hc1 => ?_) (fun hc1 => ?_)
    · replace h := oT hc1 h
      refine z_iconst (M := mJ1_indexOfChar_4cfef) (v := -1) dJ1_indexOfChar_4cfef_31 rfl ?_
      cases h
      exact z_iret dJ1_indexOfChar_4cfef_32 rfl
    · replace h := oF hc1 h
      refine z_aload_n dJ1_indexOfChar_4cfef_13 0 rfl ?_
      refine z_iload dJ1_indexOfChar_4cfef_14 3 rfl ?_
      obtain ⟨hi2, h⟩ := oif h
      refine y_sbyt dJ1_indexOfChar_4cfef_16 hq0 hi2 ?_
      refine z_iload dJ1_indexOfChar_4cfef_17 2 rfl ?_
      refine z_icmp_ne 25 dJ1_indexOfChar_4cfef_19 rfl (fun hc3 => ?_) (fun hc3 => ?_)
      · replace h := oT hc3 h
        refine z_iinc (M := mJ1_indexOfChar_4cfef) (v := (x5 + (1 : Int32))) (lv2 := [(5, .int (x5 + (1 : Int32))), (0, .ref (1004 + x0)), (3, .int x3), (4, .int x4)]) dJ1_indexOfChar_4cfef_25 3 rfl rfl (Nat.le_of_ble_eq_true rfl) rfl ?_
        refine z_goto 7 dJ1_indexOfChar_4cfef_28 rfl ?_
        refine z_lv (lv2 := [(0, .ref (1004 + x0)), (3, .int x3), (4, .int x4), (5, .int (x5 + (1 : Int32)))]) [1, 2, 3, 0] rfl ?_
        exact ih x0 x3 x4 (x5 + (1 : Int32)) _ hq0 h
      · replace h := oFn hc3 h
        refine z_iload dJ1_indexOfChar_4cfef_22 3 rfl ?_
        cases h
        exact z_iret dJ1_indexOfChar_4cfef_24 rfl
def Jl_indexOfChar (x0 : Nat) (x1 : Int32) (x2 : Int32) (x3 : Int32) : Option Int32 :=
  Jl_indexOfChar_7 FU x0 x3 x1.toInt8.toInt32 x2
set_option maxRecDepth 100000 in
set_option maxHeartbeats 4000000 in
theorem t_Jl_indexOfChar {g : GG} {d : Nat} {μ : Mm} (hd0 : 1 ≤ d) : ∀ (x0 : Nat) (x1 : Int32) (x2 : Int32) (x3 : Int32) (r : Int32), x0 < 2 → Jl_indexOfChar x0 x1 x2 x3 = some r → Z g d (0, 0) mJ1_indexOfChar_4cfef 333 0 0 0 [(0, .ref (1004 + x0)), (1, .int x1), (2, .int x2), (3, .int x3)] [] μ (zF g (some (.int r), μ)) := by
  intro x0 x1 x2 x3 r hq0 h
  unfold Jl_indexOfChar at h
  refine z_iload_n dJ1_indexOfChar_4cfef_0 1 rfl ?_
  refine z_i2b dJ1_indexOfChar_4cfef_1 ?_
  refine z_istore (M := mJ1_indexOfChar_4cfef) (lv2 := [(4, .int x1.toInt8.toInt32), (0, .ref (1004 + x0)), (1, .int x1), (2, .int x2), (3, .int x3)]) dJ1_indexOfChar_4cfef_2 (Nat.le_of_ble_eq_true rfl) rfl ?_
  refine z_iload_n dJ1_indexOfChar_4cfef_4 3 rfl ?_
  refine z_istore (M := mJ1_indexOfChar_4cfef) (lv2 := [(5, .int x2), (4, .int x1.toInt8.toInt32), (0, .ref (1004 + x0)), (1, .int x1), (2, .int x2), (3, .int x3)]) dJ1_indexOfChar_4cfef_5 (Nat.le_of_ble_eq_true rfl) rfl ?_
  refine z_lv (lv2 := [(0, .ref (1004 + x0)), (3, .int x3), (4, .int x1.toInt8.toInt32), (5, .int x2)]) [2, 5, 1, 0] rfl ?_
  exact t_Jl_indexOfChar_7 hd0 FU x0 x3 x1.toInt8.toInt32 x2 _ hq0 h
theorem ct_Jl_indexOfChar {g : GG} {d : Nat} {x0 : Nat} {x1 : Int32} {x2 : Int32} {x3 : Int32} {μ : Mm} {r : Int32} (hd0 : 1 ≤ d) (hq0 : x0 < 2) (h : Jl_indexOfChar x0 x1 x2 x3 = some r) : Ct g d mJ1_indexOfChar_4cfef [.ref (1004 + x0), .int x1, .int x2, .int x3] μ (some (.int r), μ) := y_entry in_J1_indexOfChar_4cfef (Nat.le_of_ble_eq_true rfl) rfl (t_Jl_indexOfChar hd0 x0 x1 x2 x3 r hq0 h)
-- java/lang/StringLatin1.indexOf([BIII)I
theorem dJ1_indexOf_4cfef_0 : decode cJ1_indexOf_4cfef 0 = .ok (.iload_n 1, 1) := by decide +kernel
theorem dJ1_indexOf_4cfef_1 : decode cJ1_indexOf_4cfef 1 = .ok (.invokestatic 88, 3) := by decide +kernel
theorem dJ1_indexOf_4cfef_4 : decode cJ1_indexOf_4cfef 4 = .ok (.ifCond .ne 5, 3) := by decide +kernel
theorem dJ1_indexOf_4cfef_7 : decode cJ1_indexOf_4cfef 7 = .ok (.iconst (-1), 1) := by decide +kernel
theorem dJ1_indexOf_4cfef_8 : decode cJ1_indexOf_4cfef 8 = .ok (.ireturn, 1) := by decide +kernel
theorem dJ1_indexOf_4cfef_9 : decode cJ1_indexOf_4cfef 9 = .ok (.iload_n 2, 1) := by decide +kernel
theorem dJ1_indexOf_4cfef_10 : decode cJ1_indexOf_4cfef 10 = .ok (.iconst 0, 1) := by decide +kernel
theorem dJ1_indexOf_4cfef_11 : decode cJ1_indexOf_4cfef 11 = .ok (.invokestatic 92, 3) := by decide +kernel
theorem dJ1_indexOf_4cfef_14 : decode cJ1_indexOf_4cfef 14 = .ok (.istore_n 2, 1) := by decide +kernel
theorem dJ1_indexOf_4cfef_15 : decode cJ1_indexOf_4cfef 15 = .ok (.iload_n 3, 1) := by decide +kernel
theorem dJ1_indexOf_4cfef_16 : decode cJ1_indexOf_4cfef 16 = .ok (.aload_n 0, 1) := by decide +kernel
theorem dJ1_indexOf_4cfef_17 : decode cJ1_indexOf_4cfef 17 = .ok (.arraylength, 1) := by decide +kernel
theorem dJ1_indexOf_4cfef_18 : decode cJ1_indexOf_4cfef 18 = .ok (.invokestatic 38, 3) := by decide +kernel
theorem dJ1_indexOf_4cfef_21 : decode cJ1_indexOf_4cfef 21 = .ok (.istore_n 3, 1) := by decide +kernel
theorem dJ1_indexOf_4cfef_22 : decode cJ1_indexOf_4cfef 22 = .ok (.iload_n 2, 1) := by decide +kernel
theorem dJ1_indexOf_4cfef_23 : decode cJ1_indexOf_4cfef 23 = .ok (.iload_n 3, 1) := by decide +kernel
theorem dJ1_indexOf_4cfef_24 : decode cJ1_indexOf_4cfef 24 = .ok (.if_icmp .lt 5, 3) := by decide +kernel
theorem dJ1_indexOf_4cfef_27 : decode cJ1_indexOf_4cfef 27 = .ok (.iconst (-1), 1) := by decide +kernel
theorem dJ1_indexOf_4cfef_28 : decode cJ1_indexOf_4cfef 28 = .ok (.ireturn, 1) := by decide +kernel
theorem dJ1_indexOf_4cfef_29 : decode cJ1_indexOf_4cfef 29 = .ok (.aload_n 0, 1) := by decide +kernel
theorem dJ1_indexOf_4cfef_30 : decode cJ1_indexOf_4cfef 30 = .ok (.iload_n 1, 1) := by decide +kernel
theorem dJ1_indexOf_4cfef_31 : decode cJ1_indexOf_4cfef 31 = .ok (.iload_n 2, 1) := by decide +kernel
theorem dJ1_indexOf_4cfef_32 : decode cJ1_indexOf_4cfef 32 = .ok (.iload_n 3, 1) := by decide +kernel
theorem dJ1_indexOf_4cfef_33 : decode cJ1_indexOf_4cfef 33 = .ok (.invokestatic 95, 3) := by decide +kernel
theorem dJ1_indexOf_4cfef_36 : decode cJ1_indexOf_4cfef 36 = .ok (.ireturn, 1) := by decide +kernel
def Jl_indexOf (x0 : Nat) (x1 : Int32) (x2 : Int32) (x3 : Int32) : Option Int32 :=
  (Jl_canEncode x1).bind fun v1 =>
  (if ¬ (b2i v1) = 0 then
    (if (imax x2 (0 : Int32)) < (imin x3 (Int32.ofNat (slen x0))) then
      (Jl_indexOfChar x0 x1 (imax x2 (0 : Int32)) (imin x3 (Int32.ofNat (slen x0)))).bind fun v4 =>
      some v4
    else
      some (-1 : Int32))
  else
    some (-1 : Int32))
set_option maxRecDepth 100000 in
set_option maxHeartbeats 4000000 in
theorem t_Jl_indexOf {g : GG} {d : Nat} {μ : Mm} (hd0 : 2 ≤ d) : ∀ (x0 : Nat) (x1 : Int32) (x2 : Int32) (x3 : Int32) (r : Int32), x0 < 2 → Jl_indexOf x0 x1 x2 x3 = some r → Z g d (0, 0) mJ1_indexOf_4cfef 333 0 0 0 [(0, .ref (1004 + x0)), (1, .int x1), (2, .int x2), (3, .int x3)] [] μ (zF g (some (.int r), μ)) := by
  intro x0 x1 x2 x3 r hq0 h
  unfold Jl_indexOf at h
  refine z_iload_n dJ1_indexOf_4cfef_0 1 rfl ?_
  obtain ⟨v1, he1, h⟩ := obind h
  refine y_Si (M := mJ1_indexOf_4cfef) (Y := mJ1_canEncode_9a6ad) (d2 := d - 1) (As := [.int x1]) (st := []) dJ1_indexOf_4cfef_1 mlRJ1_88 cv_J1_canEncode_9a6ad (ct_Jl_canEncode (dle (Nat.le_of_ble_eq_true rfl) hd0) he1) (dps (Nat.le_of_ble_eq_true rfl) hd0) rfl rfl (Nat.le_of_ble_eq_true rfl) ?_
  refine z_if_ne 9 dJ1_indexOf_4cfef_4 rfl (fun hc2 => ?_) (fun hc2 => ?_)
  · replace h := oT hc2 h
    refine z_iload_n dJ1_indexOf_4cfef_9 2 rfl ?_
    refine z_iconst (M := mJ1_indexOf_4cfef) (v := 0) dJ1_indexOf_4cfef_10 rfl ?_
    refine y_mmax dJ1_indexOf_4cfef_11 mlRJ1_92 mw_mmax (Nat.le_trans (Nat.le_of_ble_eq_true rfl) hd0) (Nat.le_of_ble_eq_true rfl) ?_
    refine z_istore_n (M := mJ1_indexOf_4cfef) (lv2 := [(2, .int (imax x2 (0 : Int32))), (0, .ref (1004 + x0)), (1, .int x1), (3, .int x3)]) dJ1_indexOf_4cfef_14 (Nat.le_of_ble_eq_true rfl) rfl ?_
    refine z_iload_n dJ1_indexOf_4cfef_15 3 rfl ?_
    refine z_aload_n dJ1_indexOf_4cfef_16 1 rfl ?_
    refine y_slen dJ1_indexOf_4cfef_17 hq0 ?_
    refine y_mmin dJ1_indexOf_4cfef_18 mlRJ1_38 mw_mmin (Nat.le_trans (Nat.le_of_ble_eq_true rfl) hd0) (Nat.le_of_ble_eq_true rfl) ?_
    refine z_istore_n (M := mJ1_indexOf_4cfef) (lv2 := [(3, .int (imin x3 (Int32.ofNat (slen x0)))), (2, .int (imax x2 (0 : Int32))), (0, .ref (1004 + x0)), (1, .int x1)]) dJ1_indexOf_4cfef_21 (Nat.le_of_ble_eq_true rfl) rfl ?_
    refine z_iload_n dJ1_indexOf_4cfef_22 1 rfl ?_
    refine z_iload_n dJ1_indexOf_4cfef_23 0 rfl ?_
    refine z_icmp_lt 29 dJ1_indexOf_4cfef_24 rfl (fun hc3 => ?_) (fun hc3 => ?_)
    · replace h := oT hc3 h
      refine z_aload_n dJ1_indexOf_4cfef_29 2 rfl ?_
      refine z_iload_n dJ1_indexOf_4cfef_30 3 rfl ?_
      refine z_iload_n dJ1_indexOf_4cfef_31 1 rfl ?_
      refine z_iload_n dJ1_indexOf_4cfef_32 0 rfl ?_
      obtain ⟨v4, he4, h⟩ := obind h
      refine y_Si (M := mJ1_indexOf_4cfef) (Y := mJ1_indexOfChar_4cfef) (d2 := d - 1) (As := [.ref (1004 + x0), .int x1, .int (imax x2 (0 : Int32)), .int (imin x3 (Int32.ofNat (slen x0)))]) (st := []) dJ1_indexOf_4cfef_33 mlRJ1_95 cv_J1_indexOfChar_4cfef (ct_Jl_indexOfChar (dle (Nat.le_of_ble_eq_true rfl) hd0) hq0 he4) (dps (Nat.le_of_ble_eq_true rfl) hd0) rfl rfl (Nat.le_of_ble_eq_true rfl) ?_
      cases h
      exact z_iret dJ1_indexOf_4cfef_36 rfl
    · replace h := oF hc3 h
      refine z_iconst (M := mJ1_indexOf_4cfef) (v := -1) dJ1_indexOf_4cfef_27 rfl ?_
      cases h
      exact z_iret dJ1_indexOf_4cfef_28 rfl
  · replace h := oFn hc2 h
    refine z_iconst (M := mJ1_indexOf_4cfef) (v := -1) dJ1_indexOf_4cfef_7 rfl ?_
    cases h
    exact z_iret dJ1_indexOf_4cfef_8 rfl
theorem ct_Jl_indexOf {g : GG} {d : Nat} {x0 : Nat} {x1 : Int32} {x2 : Int32} {x3 : Int32} {μ : Mm} {r : Int32} (hd0 : 2 ≤ d) (hq0 : x0 < 2) (h : Jl_indexOf x0 x1 x2 x3 = some r) : Ct g d mJ1_indexOf_4cfef [.ref (1004 + x0), .int x1, .int x2, .int x3] μ (some (.int r), μ) := y_entry in_J1_indexOf_4cfef (Nat.le_of_ble_eq_true rfl) rfl (t_Jl_indexOf hd0 x0 x1 x2 x3 r hq0 h)
-- java/lang/String.indexOf(II)I
theorem dJ0_indexOf_7cf53_0 : decode cJ0_indexOf_7cf53 0 = .ok (.aload_n 0, 1) := by decide +kernel
theorem dJ0_indexOf_7cf53_1 : decode cJ0_indexOf_7cf53 1 = .ok (.invokevirtual 492, 3) := by decide +kernel
theorem dJ0_indexOf_7cf53_4 : decode cJ0_indexOf_7cf53 4 = .ok (.ifCond .eq 19, 3) := by decide +kernel
theorem dJ0_indexOf_7cf53_7 : decode cJ0_indexOf_7cf53 7 = .ok (.aload_n 0, 1) := by decide +kernel
theorem dJ0_indexOf_7cf53_8 : decode cJ0_indexOf_7cf53 8 = .ok (.getfield 9, 3) := by decide +kernel
theorem dJ0_indexOf_7cf53_11 : decode cJ0_indexOf_7cf53 11 = .ok (.iload_n 1, 1) := by decide +kernel
theorem dJ0_indexOf_7cf53_12 : decode cJ0_indexOf_7cf53 12 = .ok (.iload_n 2, 1) := by decide +kernel
theorem dJ0_indexOf_7cf53_13 : decode cJ0_indexOf_7cf53 13 = .ok (.aload_n 0, 1) := by decide +kernel
theorem dJ0_indexOf_7cf53_14 : decode cJ0_indexOf_7cf53 14 = .ok (.invokevirtual 505, 3) := by decide +kernel
theorem dJ0_indexOf_7cf53_17 : decode cJ0_indexOf_7cf53 17 = .ok (.invokestatic 637, 3) := by decide +kernel
theorem dJ0_indexOf_7cf53_20 : decode cJ0_indexOf_7cf53 20 = .ok (.goto 16, 3) := by decide +kernel
theorem dJ0_indexOf_7cf53_23 : decode cJ0_indexOf_7cf53 23 = .ok (.aload_n 0, 1) := by decide +kernel
theorem dJ0_indexOf_7cf53_24 : decode cJ0_indexOf_7cf53 24 = .ok (.getfield 9, 3) := by decide +kernel
theorem dJ0_indexOf_7cf53_27 : decode cJ0_indexOf_7cf53 27 = .ok (.iload_n 1, 1) := by decide +kernel
theorem dJ0_indexOf_7cf53_28 : decode cJ0_indexOf_7cf53 28 = .ok (.iload_n 2, 1) := by decide +kernel
theorem dJ0_indexOf_7cf53_29 : decode cJ0_indexOf_7cf53 29 = .ok (.aload_n 0, 1) := by decide +kernel
theorem dJ0_indexOf_7cf53_30 : decode cJ0_indexOf_7cf53 30 = .ok (.invokevirtual 505, 3) := by decide +kernel
theorem dJ0_indexOf_7cf53_33 : decode cJ0_indexOf_7cf53 33 = .ok (.invokestatic 640, 3) := by decide +kernel
theorem dJ0_indexOf_7cf53_36 : decode cJ0_indexOf_7cf53 36 = .ok (.ireturn, 1) := by decide +kernel
def Js_indexOf2 (x0 : Nat) (x1 : Int32) (x2 : Int32) : Option Int32 :=
  (Js_isLatin1 x0).bind fun v1 =>
  (if (b2i v1) = 0 then
    (Js_length x0).bind fun v3 =>
    none
  else
    (Js_length x0).bind fun v4 =>
    (Jl_indexOf x0 x1 x2 v4).bind fun v5 =>
    some v5)
set_option maxRecDepth 100000 in
set_option maxHeartbeats 4000000 in
theorem t_Js_indexOf2 {g : GG} {d : Nat} {μ : Mm} (hd0 : 3 ≤ d) : ∀ (x0 : Nat) (x1 : Int32) (x2 : Int32) (r : Int32), x0 < 2 → Js_indexOf2 x0 x1 x2 = some r → Z g d (0, 0) mJ0_indexOf_7cf53 333 0 0 0 [(0, .ref (1002 + x0)), (1, .int x1), (2, .int x2)] [] μ (zF g (some (.int r), μ)) := by
  intro x0 x1 x2 r hq0 h
  unfold Js_indexOf2 at h
  refine z_aload_n dJ0_indexOf_7cf53_0 0 rfl ?_
  obtain ⟨v1, he1, h⟩ := obind h
  refine y_Wi (M := mJ0_indexOf_7cf53) (Y := mJ0_isLatin1_aae02) (d2 := d - 1) (As := []) (st := []) dJ0_indexOf_7cf53_1 mlRJ0_492 cv_J0_isLatin1_aae02 hq0 (ct_Js_isLatin1 (dle (Nat.le_of_ble_eq_true rfl) hd0) hq0 he1) (dps (Nat.le_of_ble_eq_true rfl) hd0) rfl rfl (Nat.le_of_ble_eq_true rfl) ?_
  refine z_if_eq 23 dJ0_indexOf_7cf53_4 rfl (fun hc2 => ?_) (fun hc2 => ?_)
  · replace h := oT hc2 h
    refine z_aload_n dJ0_indexOf_7cf53_23 0 rfl ?_
    refine y_sval dJ0_indexOf_7cf53_24 val_w hq0 ?_
    refine z_iload_n dJ0_indexOf_7cf53_27 1 rfl ?_
    refine z_iload_n dJ0_indexOf_7cf53_28 2 rfl ?_
    refine z_aload_n dJ0_indexOf_7cf53_29 0 rfl ?_
    obtain ⟨v3, he3, h⟩ := obind h
    refine y_Wi (M := mJ0_indexOf_7cf53) (Y := mJ0_length_8abf5) (d2 := d - 1) (As := []) (st := [.int x2, .int x1, .ref (1004 + x0)]) dJ0_indexOf_7cf53_30 mlRJ0_505 cv_J0_length_8abf5 hq0 (ct_Js_length (dle (Nat.le_of_ble_eq_true rfl) hd0) hq0 he3) (dps (Nat.le_of_ble_eq_true rfl) hd0) rfl rfl (Nat.le_of_ble_eq_true rfl) ?_
    cases h
  · replace h := oF hc2 h
    refine z_aload_n dJ0_indexOf_7cf53_7 0 rfl ?_
    refine y_sval dJ0_indexOf_7cf53_8 val_w hq0 ?_
    refine z_iload_n dJ0_indexOf_7cf53_11 1 rfl ?_
    refine z_iload_n dJ0_indexOf_7cf53_12 2 rfl ?_
    refine z_aload_n dJ0_indexOf_7cf53_13 0 rfl ?_
    obtain ⟨v4, he4, h⟩ := obind h
    refine y_Wi (M := mJ0_indexOf_7cf53) (Y := mJ0_length_8abf5) (d2 := d - 1) (As := []) (st := [.int x2, .int x1, .ref (1004 + x0)]) dJ0_indexOf_7cf53_14 mlRJ0_505 cv_J0_length_8abf5 hq0 (ct_Js_length (dle (Nat.le_of_ble_eq_true rfl) hd0) hq0 he4) (dps (Nat.le_of_ble_eq_true rfl) hd0) rfl rfl (Nat.le_of_ble_eq_true rfl) ?_
    obtain ⟨v5, he5, h⟩ := obind h
    refine y_Si (M := mJ0_indexOf_7cf53) (Y := mJ1_indexOf_4cfef) (d2 := d - 1) (As := [.ref (1004 + x0), .int x1, .int x2, .int v4]) (st := []) dJ0_indexOf_7cf53_17 mlRJ0_637 cv_J1_indexOf_4cfef (ct_Jl_indexOf (dle (Nat.le_of_ble_eq_true rfl) hd0) hq0 he5) (dps (Nat.le_of_ble_eq_true rfl) hd0) rfl rfl (Nat.le_of_ble_eq_true rfl) ?_
    refine z_goto 36 dJ0_indexOf_7cf53_20 rfl ?_
    cases h
    exact z_iret dJ0_indexOf_7cf53_36 rfl
theorem ct_Js_indexOf2 {g : GG} {d : Nat} {x0 : Nat} {x1 : Int32} {x2 : Int32} {μ : Mm} {r : Int32} (hd0 : 3 ≤ d) (hq0 : x0 < 2) (h : Js_indexOf2 x0 x1 x2 = some r) : Ct g d mJ0_indexOf_7cf53 [.ref (1002 + x0), .int x1, .int x2] μ (some (.int r), μ) := y_entry in_J0_indexOf_7cf53 (Nat.le_of_ble_eq_true rfl) rfl (t_Js_indexOf2 hd0 x0 x1 x2 r hq0 h)
-- java/lang/String.indexOf(I)I
theorem dJ0_indexOf_0f7a4_0 : decode cJ0_indexOf_0f7a4 0 = .ok (.aload_n 0, 1) := by decide +kernel
theorem dJ0_indexOf_0f7a4_1 : decode cJ0_indexOf_0f7a4 1 = .ok (.iload_n 1, 1) := by decide +kernel
theorem dJ0_indexOf_0f7a4_2 : decode cJ0_indexOf_0f7a4 2 = .ok (.iconst 0, 1) := by decide +kernel
theorem dJ0_indexOf_0f7a4_3 : decode cJ0_indexOf_0f7a4 3 = .ok (.invokevirtual 633, 3) := by decide +kernel
theorem dJ0_indexOf_0f7a4_6 : decode cJ0_indexOf_0f7a4 6 = .ok (.ireturn, 1) := by decide +kernel
def Js_indexOf (x0 : Nat) (x1 : Int32) : Option Int32 :=
  (Js_indexOf2 x0 x1 (0 : Int32)).bind fun v1 =>
  some v1
set_option maxRecDepth 100000 in
set_option maxHeartbeats 4000000 in
theorem t_Js_indexOf {g : GG} {d : Nat} {μ : Mm} (hd0 : 4 ≤ d) : ∀ (x0 : Nat) (x1 : Int32) (r : Int32), x0 < 2 → Js_indexOf x0 x1 = some r → Z g d (0, 0) mJ0_indexOf_0f7a4 333 0 0 0 [(0, .ref (1002 + x0)), (1, .int x1)] [] μ (zF g (some (.int r), μ)) := by
  intro x0 x1 r hq0 h
  unfold Js_indexOf at h
  refine z_aload_n dJ0_indexOf_0f7a4_0 0 rfl ?_
  refine z_iload_n dJ0_indexOf_0f7a4_1 1 rfl ?_
  refine z_iconst (M := mJ0_indexOf_0f7a4) (v := 0) dJ0_indexOf_0f7a4_2 rfl ?_
  obtain ⟨v1, he1, h⟩ := obind h
  refine y_Wi (M := mJ0_indexOf_0f7a4) (Y := mJ0_indexOf_7cf53) (d2 := d - 1) (As := [.int x1, .int (0 : Int32)]) (st := []) dJ0_indexOf_0f7a4_3 mlRJ0_633 cv_J0_indexOf_7cf53 hq0 (ct_Js_indexOf2 (dle (Nat.le_of_ble_eq_true rfl) hd0) hq0 he1) (dps (Nat.le_of_ble_eq_true rfl) hd0) rfl rfl (Nat.le_of_ble_eq_true rfl) ?_
  cases h
  exact z_iret dJ0_indexOf_0f7a4_6 rfl
theorem ct_Js_indexOf {g : GG} {d : Nat} {x0 : Nat} {x1 : Int32} {μ : Mm} {r : Int32} (hd0 : 4 ≤ d) (hq0 : x0 < 2) (h : Js_indexOf x0 x1 = some r) : Ct g d mJ0_indexOf_0f7a4 [.ref (1002 + x0), .int x1] μ (some (.int r), μ) := y_entry in_J0_indexOf_0f7a4 (Nat.le_of_ble_eq_true rfl) rfl (t_Js_indexOf hd0 x0 x1 r hq0 h)

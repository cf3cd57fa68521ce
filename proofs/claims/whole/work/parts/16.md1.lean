-- FuseMinutesModel.isIn(III)Z
theorem dX12_isIn_0 : decode cX12_isIn 0 = .ok (.iload_n 0, 1) := by decide +kernel
theorem dX12_isIn_1 : decode cX12_isIn 1 = .ok (.iload_n 1, 1) := by decide +kernel
theorem dX12_isIn_2 : decode cX12_isIn 2 = .ok (.if_icmp .lt 12, 3) := by decide +kernel
theorem dX12_isIn_5 : decode cX12_isIn 5 = .ok (.iload_n 0, 1) := by decide +kernel
theorem dX12_isIn_6 : decode cX12_isIn 6 = .ok (.iload_n 2, 1) := by decide +kernel
theorem dX12_isIn_7 : decode cX12_isIn 7 = .ok (.if_icmp .gt 7, 3) := by decide +kernel
theorem dX12_isIn_10 : decode cX12_isIn 10 = .ok (.iconst 1, 1) := by decide +kernel
theorem dX12_isIn_11 : decode cX12_isIn 11 = .ok (.goto 4, 3) := by decide +kernel
theorem dX12_isIn_14 : decode cX12_isIn 14 = .ok (.iconst 0, 1) := by decide +kernel
theorem dX12_isIn_15 : decode cX12_isIn 15 = .ok (.ireturn, 1) := by decide +kernel
def Md_isIn (x0 : Int32) (x1 : Int32) (x2 : Int32) : Option Bool :=
  (if x0 < x1 then
    some false
  else
    (if x2 < x0 then
      some false
    else
      some true))
set_option maxRecDepth 100000 in
set_option maxHeartbeats 4000000 in
theorem t_Md_isIn {g : GG} {d : Nat} {μ : Mm} (hd0 : 1 ≤ d) : ∀ (x0 : Int32) (x1 : Int32) (x2 : Int32) (r : Bool), Md_isIn x0 x1 x2 = some r → Z g d (0, 0) mX12_isIn 333 0 0 0 [(0, .int x0), (1, .int x1), (2, .int x2)] [] μ (zF g (some (.int (b2i r)), μ)) := by
  intro x0 x1 x2 r h
  unfold Md_isIn at h
  refine z_iload_n dX12_isIn_0 0 rfl ?_
  refine z_iload_n dX12_isIn_1 1 rfl ?_
  refine z_icmp_lt 14 dX12_isIn_2 rfl (fun hc1 => ?_) (fun hc1 => ?_)
  · replace h := oT hc1 h
    refine z_iconst (M := mX12_isIn) (v := 0) dX12_isIn_14 rfl ?_
    cases h
    exact z_zret dX12_isIn_15 rfl rfl
  · replace h := oF hc1 h
    refine z_iload_n dX12_isIn_5 0 rfl ?_
    refine z_iload_n dX12_isIn_6 2 rfl ?_
    refine z_icmp_gt 14 dX12_isIn_7 rfl (fun hc2 => ?_) (fun hc2 => ?_)
    · replace h := oT hc2 h
      refine z_iconst (M := mX12_isIn) (v := 0) dX12_isIn_14 rfl ?_
      cases h
      exact z_zret dX12_isIn_15 rfl rfl
    · replace h := oF hc2 h
      refine z_iconst (M := mX12_isIn) (v := 1) dX12_isIn_10 rfl ?_
      refine z_goto 15 dX12_isIn_11 rfl ?_
      cases h
      exact z_zret dX12_isIn_15 rfl rfl
theorem ct_Md_isIn {g : GG} {d : Nat} {x0 : Int32} {x1 : Int32} {x2 : Int32} {μ : Mm} {r : Bool} (hd0 : 1 ≤ d)  (h : Md_isIn x0 x1 x2 = some r) : Ct g d mX12_isIn [.int x0, .int x1, .int x2] μ (some (.int (b2i r)), μ) := y_entry in_X12_isIn (Nat.le_of_ble_eq_true rfl) rfl (t_Md_isIn hd0 x0 x1 x2 r h)
-- FuseMinutesModel.byteAt(I)I
theorem dX12_byteAt_0 : decode cX12_byteAt 0 = .ok (.iload_n 1, 1) := by decide +kernel
theorem dX12_byteAt_1 : decode cX12_byteAt 1 = .ok (.aload_n 0, 1) := by decide +kernel
theorem dX12_byteAt_2 : decode cX12_byteAt 2 = .ok (.getfield 119, 3) := by decide +kernel
theorem dX12_byteAt_5 : decode cX12_byteAt 5 = .ok (.if_icmp .ge 12, 3) := by decide +kernel
theorem dX12_byteAt_8 : decode cX12_byteAt 8 = .ok (.aload_n 0, 1) := by decide +kernel
theorem dX12_byteAt_9 : decode cX12_byteAt 9 = .ok (.getfield 19, 3) := by decide +kernel
theorem dX12_byteAt_12 : decode cX12_byteAt 12 = .ok (.iload_n 1, 1) := by decide +kernel
theorem dX12_byteAt_13 : decode cX12_byteAt 13 = .ok (.iaload, 1) := by decide +kernel
theorem dX12_byteAt_14 : decode cX12_byteAt 14 = .ok (.goto 4, 3) := by decide +kernel
theorem dX12_byteAt_17 : decode cX12_byteAt 17 = .ok (.iconst (-1), 1) := by decide +kernel
theorem dX12_byteAt_18 : decode cX12_byteAt 18 = .ok (.ireturn, 1) := by decide +kernel
def Md_byteAt (ν : Nm) (x1 : Int32) : Option Int32 :=
  (if (gi ν 313 4) ≤ x1 then
    some (-1 : Int32)
  else
    if inb x1 300 then
    some (gi ν 317 x1.toNatClampNeg)
    else none)
set_option maxRecDepth 100000 in
set_option maxHeartbeats 4000000 in
theorem t_Md_byteAt {g : GG} {d : Nat} {ν : Nm} (hd0 : 1 ≤ d) : ∀ (x1 : Int32) (r : Int32), Md_byteAt ν x1 = some r → Z g d (0, 0) mX12_byteAt 333 0 0 0 [(0, .ref 313), (1, .int x1)] [] (zem ν) (zF g (some (.int r), zem ν)) := by
  intro x1 r h
  unfold Md_byteAt at h
  refine z_iload_n dX12_byteAt_0 1 rfl ?_
  refine z_aload_n dX12_byteAt_1 0 rfl ?_
  refine y_getI dX12_byteAt_2 zk_313 flRX12_119 ?_
  refine z_icmp_ge 17 dX12_byteAt_5 rfl (fun hc1 => ?_) (fun hc1 => ?_)
  · replace h := oT hc1 h
    refine z_iconst (M := mX12_byteAt) (v := -1) dX12_byteAt_17 rfl ?_
    cases h
    exact z_iret dX12_byteAt_18 rfl
  · replace h := oF hc1 h
    refine z_aload_n dX12_byteAt_8 0 rfl ?_
    refine y_getR (M := mX12_byteAt) (r := 317) dX12_byteAt_9 zk_313 flRX12_19 fr_10_3.1 (fr_10_3.2 _) ?_
    refine z_iload_n dX12_byteAt_12 1 rfl ?_
    obtain ⟨hi2, h⟩ := oif h
    refine y_iald (M := mX12_byteAt) (jj := x1.toNatClampNeg) dX12_byteAt_13 zk_317 hi2 rfl ?_
    refine z_goto 18 dX12_byteAt_14 rfl ?_
    cases h
    exact z_iret dX12_byteAt_18 rfl
theorem ct_Md_byteAt {g : GG} {d : Nat} {x1 : Int32} {ν : Nm} {r : Int32} (hd0 : 1 ≤ d)  (h : Md_byteAt ν x1 = some r) : Ct g d mX12_byteAt [.ref 313, .int x1] (zem ν) (some (.int r), zem ν) := y_entry in_X12_byteAt (Nat.le_of_ble_eq_true rfl) rfl (t_Md_byteAt hd0 x1 r h)
-- FuseMinutesModel.isFigure(I)Z
theorem dX12_isFigure_0 : decode cX12_isFigure 0 = .ok (.iload_n 0, 1) := by decide +kernel
theorem dX12_isFigure_1 : decode cX12_isFigure 1 = .ok (.bipush 48, 2) := by decide +kernel
theorem dX12_isFigure_3 : decode cX12_isFigure 3 = .ok (.if_icmp .lt 13, 3) := by decide +kernel
theorem dX12_isFigure_6 : decode cX12_isFigure 6 = .ok (.iload_n 0, 1) := by decide +kernel
theorem dX12_isFigure_7 : decode cX12_isFigure 7 = .ok (.bipush 57, 2) := by decide +kernel
theorem dX12_isFigure_9 : decode cX12_isFigure 9 = .ok (.if_icmp .gt 7, 3) := by decide +kernel
theorem dX12_isFigure_12 : decode cX12_isFigure 12 = .ok (.iconst 1, 1) := by decide +kernel
theorem dX12_isFigure_13 : decode cX12_isFigure 13 = .ok (.goto 4, 3) := by decide +kernel
theorem dX12_isFigure_16 : decode cX12_isFigure 16 = .ok (.iconst 0, 1) := by decide +kernel
theorem dX12_isFigure_17 : decode cX12_isFigure 17 = .ok (.ireturn, 1) := by decide +kernel
def Md_isFigure (x0 : Int32) : Option Bool :=
  (if x0 < (48 : Int32) then
    some false
  else
    (if (57 : Int32) < x0 then
      some false
    else
      some true))
set_option maxRecDepth 100000 in
set_option maxHeartbeats 4000000 in
theorem t_Md_isFigure {g : GG} {d : Nat} {μ : Mm} (hd0 : 1 ≤ d) : ∀ (x0 : Int32) (r : Bool), Md_isFigure x0 = some r → Z g d (0, 0) mX12_isFigure 333 0 0 0 [(0, .int x0)] [] μ (zF g (some (.int (b2i r)), μ)) := by
  intro x0 r h
  unfold Md_isFigure at h
  refine z_iload_n dX12_isFigure_0 0 rfl ?_
  refine z_bipush (M := mX12_isFigure) (v := 48) dX12_isFigure_1 rfl ?_
  refine z_icmp_lt 16 dX12_isFigure_3 rfl (fun hc1 => ?_) (fun hc1 => ?_)
  · replace h := oT hc1 h
    refine z_iconst (M := mX12_isFigure) (v := 0) dX12_isFigure_16 rfl ?_
    cases h
    exact z_zret dX12_isFigure_17 rfl rfl
  · replace h := oF hc1 h
    refine z_iload_n dX12_isFigure_6 0 rfl ?_
    refine z_bipush (M := mX12_isFigure) (v := 57) dX12_isFigure_7 rfl ?_
    refine z_icmp_gt 16 dX12_isFigure_9 rfl (fun hc2 => ?_) (fun hc2 => ?_)
    · replace h := oT hc2 h
      refine z_iconst (M := mX12_isFigure) (v := 0) dX12_isFigure_16 rfl ?_
      cases h
      exact z_zret dX12_isFigure_17 rfl rfl
    · replace h := oF hc2 h
      refine z_iconst (M := mX12_isFigure) (v := 1) dX12_isFigure_12 rfl ?_
      refine z_goto 17 dX12_isFigure_13 rfl ?_
      cases h
      exact z_zret dX12_isFigure_17 rfl rfl
theorem ct_Md_isFigure {g : GG} {d : Nat} {x0 : Int32} {μ : Mm} {r : Bool} (hd0 : 1 ≤ d)  (h : Md_isFigure x0 = some r) : Ct g d mX12_isFigure [.int x0] μ (some (.int (b2i r)), μ) := y_entry in_X12_isFigure (Nat.le_of_ble_eq_true rfl) rfl (t_Md_isFigure hd0 x0 r h)
-- FuseMinutesModel.isLetterByte(I)Z
theorem dX12_isLetterByte_0 : decode cX12_isLetterByte 0 = .ok (.iload_n 0, 1) := by decide +kernel
theorem dX12_isLetterByte_1 : decode cX12_isLetterByte 1 = .ok (.bipush 97, 2) := by decide +kernel
theorem dX12_isLetterByte_3 : decode cX12_isLetterByte 3 = .ok (.if_icmp .lt 9, 3) := by decide +kernel
theorem dX12_isLetterByte_6 : decode cX12_isLetterByte 6 = .ok (.iload_n 0, 1) := by decide +kernel
theorem dX12_isLetterByte_7 : decode cX12_isLetterByte 7 = .ok (.bipush 122, 2) := by decide +kernel
theorem dX12_isLetterByte_9 : decode cX12_isLetterByte 9 = .ok (.if_icmp .le 15, 3) := by decide +kernel
theorem dX12_isLetterByte_12 : decode cX12_isLetterByte 12 = .ok (.iload_n 0, 1) := by decide +kernel
theorem dX12_isLetterByte_13 : decode cX12_isLetterByte 13 = .ok (.bipush 65, 2) := by decide +kernel
theorem dX12_isLetterByte_15 : decode cX12_isLetterByte 15 = .ok (.if_icmp .lt 13, 3) := by decide +kernel
theorem dX12_isLetterByte_18 : decode cX12_isLetterByte 18 = .ok (.iload_n 0, 1) := by decide +kernel
theorem dX12_isLetterByte_19 : decode cX12_isLetterByte 19 = .ok (.bipush 90, 2) := by decide +kernel
theorem dX12_isLetterByte_21 : decode cX12_isLetterByte 21 = .ok (.if_icmp .gt 7, 3) := by decide +kernel
theorem dX12_isLetterByte_24 : decode cX12_isLetterByte 24 = .ok (.iconst 1, 1) := by decide +kernel
theorem dX12_isLetterByte_25 : decode cX12_isLetterByte 25 = .ok (.goto 4, 3) := by decide +kernel
theorem dX12_isLetterByte_28 : decode cX12_isLetterByte 28 = .ok (.iconst 0, 1) := by decide +kernel
theorem dX12_isLetterByte_29 : decode cX12_isLetterByte 29 = .ok (.ireturn, 1) := by decide +kernel
def Md_isLetterByte_12 (x0 : Int32) : Option Bool :=
  (if x0 < (65 : Int32) then
    some false
  else
    (if (90 : Int32) < x0 then
      some false
    else
      some true))
set_option maxRecDepth 100000 in
set_option maxHeartbeats 4000000 in
theorem t_Md_isLetterByte_12 {g : GG} {d : Nat} {μ : Mm} (hd0 : 1 ≤ d) : ∀ (x0 : Int32) (r : Bool), Md_isLetterByte_12 x0 = some r → Z g d (0, 0) mX12_isLetterByte 333 0 0 12 [(0, .int x0)] [] μ (zF g (some (.int (b2i r)), μ)) := by
  intro x0 r h
  unfold Md_isLetterByte_12 at h
  refine z_iload_n dX12_isLetterByte_12 0 rfl ?_
  refine z_bipush (M := mX12_isLetterByte) (v := 65) dX12_isLetterByte_13 rfl ?_
  refine z_icmp_lt 28 dX12_isLetterByte_15 rfl (fun hc1 => ?_) (fun hc1 => ?_)
  · replace h := oT hc1 h
    refine z_iconst (M := mX12_isLetterByte) (v := 0) dX12_isLetterByte_28 rfl ?_
    cases h
    exact z_zret dX12_isLetterByte_29 rfl rfl
  · replace h := oF hc1 h
    refine z_iload_n dX12_isLetterByte_18 0 rfl ?_
    refine z_bipush (M := mX12_isLetterByte) (v := 90) dX12_isLetterByte_19 rfl ?_
    refine z_icmp_gt 28 dX12_isLetterByte_21 rfl (fun hc2 => ?_) (fun hc2 => ?_)
    · replace h := oT hc2 h
      refine z_iconst (M := mX12_isLetterByte) (v := 0) dX12_isLetterByte_28 rfl ?_
      cases h
      exact z_zret dX12_isLetterByte_29 rfl rfl
    · replace h := oF hc2 h
      refine z_iconst (M := mX12_isLetterByte) (v := 1) dX12_isLetterByte_24 rfl ?_
      refine z_goto 29 dX12_isLetterByte_25 rfl ?_
      cases h
      exact z_zret dX12_isLetterByte_29 rfl rfl
def Md_isLetterByte (x0 : Int32) : Option Bool :=
  (if x0 < (97 : Int32) then
    Md_isLetterByte_12 x0
  else
    (if x0 ≤ (122 : Int32) then
      some true
    else
      Md_isLetterByte_12 x0))
set_option maxRecDepth 100000 in
set_option maxHeartbeats 4000000 in
theorem t_Md_isLetterByte {g : GG} {d : Nat} {μ : Mm} (hd0 : 1 ≤ d) : ∀ (x0 : Int32) (r : Bool), Md_isLetterByte x0 = some r → Z g d (0, 0) mX12_isLetterByte 333 0 0 0 [(0, .int x0)] [] μ (zF g (some (.int (b2i r)), μ)) := by
  intro x0 r h
  unfold Md_isLetterByte at h
  refine z_iload_n dX12_isLetterByte_0 0 rfl ?_
  refine z_bipush (M := mX12_isLetterByte) (v := 97) dX12_isLetterByte_1 rfl ?_
  refine z_icmp_lt 12 dX12_isLetterByte_3 rfl (fun hc1 => ?_) (fun hc1 => ?_)
  · replace h := oT hc1 h
    exact t_Md_isLetterByte_12 hd0  x0 _ h
  · replace h := oF hc1 h
    refine z_iload_n dX12_isLetterByte_6 0 rfl ?_
    refine z_bipush (M := mX12_isLetterByte) (v := 122) dX12_isLetterByte_7 rfl ?_
    refine z_icmp_le 24 dX12_isLetterByte_9 rfl (fun hc2 => ?_) (fun hc2 => ?_)
    · replace h := oT hc2 h
      refine z_iconst (M := mX12_isLetterByte) (v := 1) dX12_isLetterByte_24 rfl ?_
      refine z_goto 29 dX12_isLetterByte_25 rfl ?_
      cases h
      exact z_zret dX12_isLetterByte_29 rfl rfl
    · replace h := oF hc2 h
      exact t_Md_isLetterByte_12 hd0  x0 _ h
theorem ct_Md_isLetterByte {g : GG} {d : Nat} {x0 : Int32} {μ : Mm} {r : Bool} (hd0 : 1 ≤ d)  (h : Md_isLetterByte x0 = some r) : Ct g d mX12_isLetterByte [.int x0] μ (some (.int (b2i r)), μ) := y_entry in_X12_isLetterByte (Nat.le_of_ble_eq_true rfl) rfl (t_Md_isLetterByte hd0 x0 r h)
-- FuseMinutesModel.isSign(I)Z
theorem dX12_isSign_0 : decode cX12_isSign 0 = .ok (.iload_n 0, 1) := by decide +kernel
theorem dX12_isSign_1 : decode cX12_isSign 1 = .ok (.tableswitch 129 35 62 #[127, 129, 129, 129, 129, 127, 127, 127, 127, 129, 127, 129, 127, 129, 129, 129, 129, 129, 129, 129, 129, 129, 129, 127, 127, 127, 127, 127], 127) := by decide +kernel
theorem dX12_isSign_128 : decode cX12_isSign 128 = .ok (.iconst 1, 1) := by decide +kernel
theorem dX12_isSign_129 : decode cX12_isSign 129 = .ok (.ireturn, 1) := by decide +kernel
theorem dX12_isSign_130 : decode cX12_isSign 130 = .ok (.iconst 0, 1) := by decide +kernel
theorem dX12_isSign_131 : decode cX12_isSign 131 = .ok (.ireturn, 1) := by decide +kernel
def Md_isSign (x0 : Int32) : Option Bool :=
  (if x0 = (35 : Int32) then
    some true
  else
  (if x0 = (40 : Int32) then
    some true
  else
  (if x0 = (41 : Int32) then
    some true
  else
  (if x0 = (42 : Int32) then
    some true
  else
  (if x0 = (43 : Int32) then
    some true
  else
  (if x0 = (45 : Int32) then
    some true
  else
  (if x0 = (47 : Int32) then
    some true
  else
  (if x0 = (58 : Int32) then
    some true
  else
  (if x0 = (59 : Int32) then
    some true
  else
  (if x0 = (60 : Int32) then
    some true
  else
  (if x0 = (61 : Int32) then
    some true
  else
  (if x0 = (62 : Int32) then
    some true
  else
    some false))))))))))))
set_option maxRecDepth 100000 in
set_option maxHeartbeats 4000000 in
theorem t_Md_isSign {g : GG} {d : Nat} {μ : Mm} (hd0 : 1 ≤ d) : ∀ (x0 : Int32) (r : Bool), Md_isSign x0 = some r → Z g d (0, 0) mX12_isSign 333 0 0 0 [(0, .int x0)] [] μ (zF g (some (.int (b2i r)), μ)) := by
  intro x0 r h
  unfold Md_isSign at h
  refine z_iload_n dX12_isSign_0 0 rfl ?_
  by_cases hc1 : x0 = (35 : Int32)
  · replace h := oT hc1 h
    refine y_sw (35 : Int32) (35) 128 dX12_isSign_1 hc1 rfl (by decide) (by decide) rfl rfl ?_
    refine z_iconst (M := mX12_isSign) (v := 1) dX12_isSign_128 rfl ?_
    cases h
    exact z_zret dX12_isSign_129 rfl rfl
  replace h := oF hc1 h
  by_cases hc2 : x0 = (40 : Int32)
  · replace h := oT hc2 h
    refine y_sw (40 : Int32) (40) 128 dX12_isSign_1 hc2 rfl (by decide) (by decide) rfl rfl ?_
    refine z_iconst (M := mX12_isSign) (v := 1) dX12_isSign_128 rfl ?_
    cases h
    exact z_zret dX12_isSign_129 rfl rfl
  replace h := oF hc2 h
  by_cases hc3 : x0 = (41 : Int32)
  · replace h := oT hc3 h
    refine y_sw (41 : Int32) (41) 128 dX12_isSign_1 hc3 rfl (by decide) (by decide) rfl rfl ?_
    refine z_iconst (M := mX12_isSign) (v := 1) dX12_isSign_128 rfl ?_
    cases h
    exact z_zret dX12_isSign_129 rfl rfl
  replace h := oF hc3 h
  by_cases hc4 : x0 = (42 : Int32)
  · replace h := oT hc4 h
    refine y_sw (42 : Int32) (42) 128 dX12_isSign_1 hc4 rfl (by decide) (by decide) rfl rfl ?_
    refine z_iconst (M := mX12_isSign) (v := 1) dX12_isSign_128 rfl ?_
    cases h
    exact z_zret dX12_isSign_129 rfl rfl
  replace h := oF hc4 h
  by_cases hc5 : x0 = (43 : Int32)
  · replace h := oT hc5 h
    refine y_sw (43 : Int32) (43) 128 dX12_isSign_1 hc5 rfl (by decide) (by decide) rfl rfl ?_
    refine z_iconst (M := mX12_isSign) (v := 1) dX12_isSign_128 rfl ?_
    cases h
    exact z_zret dX12_isSign_129 rfl rfl
  replace h := oF hc5 h
  by_cases hc6 : x0 = (45 : Int32)
  · replace h := oT hc6 h
    refine y_sw (45 : Int32) (45) 128 dX12_isSign_1 hc6 rfl (by decide) (by decide) rfl rfl ?_
    refine z_iconst (M := mX12_isSign) (v := 1) dX12_isSign_128 rfl ?_
    cases h
    exact z_zret dX12_isSign_129 rfl rfl
  replace h := oF hc6 h
  by_cases hc7 : x0 = (47 : Int32)
  · replace h := oT hc7 h
    refine y_sw (47 : Int32) (47) 128 dX12_isSign_1 hc7 rfl (by decide) (by decide) rfl rfl ?_
    refine z_iconst (M := mX12_isSign) (v := 1) dX12_isSign_128 rfl ?_
    cases h
    exact z_zret dX12_isSign_129 rfl rfl
  replace h := oF hc7 h
  by_cases hc8 : x0 = (58 : Int32)
  · replace h := oT hc8 h
    refine y_sw (58 : Int32) (58) 128 dX12_isSign_1 hc8 rfl (by decide) (by decide) rfl rfl ?_
    refine z_iconst (M := mX12_isSign) (v := 1) dX12_isSign_128 rfl ?_
    cases h
    exact z_zret dX12_isSign_129 rfl rfl
  replace h := oF hc8 h
  by_cases hc9 : x0 = (59 : Int32)
  · replace h := oT hc9 h
    refine y_sw (59 : Int32) (59) 128 dX12_isSign_1 hc9 rfl (by decide) (by decide) rfl rfl ?_
    refine z_iconst (M := mX12_isSign) (v := 1) dX12_isSign_128 rfl ?_
    cases h
    exact z_zret dX12_isSign_129 rfl rfl
  replace h := oF hc9 h
  by_cases hc10 : x0 = (60 : Int32)
  · replace h := oT hc10 h
    refine y_sw (60 : Int32) (60) 128 dX12_isSign_1 hc10 rfl (by decide) (by decide) rfl rfl ?_
    refine z_iconst (M := mX12_isSign) (v := 1) dX12_isSign_128 rfl ?_
    cases h
    exact z_zret dX12_isSign_129 rfl rfl
  replace h := oF hc10 h
  by_cases hc11 : x0 = (61 : Int32)
  · replace h := oT hc11 h
    refine y_sw (61 : Int32) (61) 128 dX12_isSign_1 hc11 rfl (by decide) (by decide) rfl rfl ?_
    refine z_iconst (M := mX12_isSign) (v := 1) dX12_isSign_128 rfl ?_
    cases h
    exact z_zret dX12_isSign_129 rfl rfl
  replace h := oF hc11 h
  by_cases hc12 : x0 = (62 : Int32)
  · replace h := oT hc12 h
    refine y_sw (62 : Int32) (62) 128 dX12_isSign_1 hc12 rfl (by decide) (by decide) rfl rfl ?_
    refine z_iconst (M := mX12_isSign) (v := 1) dX12_isSign_128 rfl ?_
    cases h
    exact z_zret dX12_isSign_129 rfl rfl
  replace h := oF hc12 h
  have zhc1 := i32ne hc1 (z := 35) rfl
  have zhc2 := i32ne hc2 (z := 40) rfl
  have zhc3 := i32ne hc3 (z := 41) rfl
  have zhc4 := i32ne hc4 (z := 42) rfl
  have zhc5 := i32ne hc5 (z := 43) rfl
  have zhc6 := i32ne hc6 (z := 45) rfl
  have zhc7 := i32ne hc7 (z := 47) rfl
  have zhc8 := i32ne hc8 (z := 58) rfl
  have zhc9 := i32ne hc9 (z := 59) rfl
  have zhc10 := i32ne hc10 (z := 60) rfl
  have zhc11 := i32ne hc11 (z := 61) rfl
  have zhc12 := i32ne hc12 (z := 62) rfl
  by_cases hc13 : x0 = (36 : Int32)
  · refine y_sw (36 : Int32) (36) 130 dX12_isSign_1 hc13 rfl (by decide) (by decide) rfl rfl ?_
    refine z_iconst (M := mX12_isSign) (v := 0) dX12_isSign_130 rfl ?_
    cases h
    exact z_zret dX12_isSign_131 rfl rfl
  have zhc13 := i32ne hc13 (z := 36) rfl
  by_cases hc14 : x0 = (37 : Int32)
  · refine y_sw (37 : Int32) (37) 130 dX12_isSign_1 hc14 rfl (by decide) (by decide) rfl rfl ?_
    refine z_iconst (M := mX12_isSign) (v := 0) dX12_isSign_130 rfl ?_
    cases h
    exact z_zret dX12_isSign_131 rfl rfl
  have zhc14 := i32ne hc14 (z := 37) rfl
  by_cases hc15 : x0 = (38 : Int32)
  · refine y_sw (38 : Int32) (38) 130 dX12_isSign_1 hc15 rfl (by decide) (by decide) rfl rfl ?_
    refine z_iconst (M := mX12_isSign) (v := 0) dX12_isSign_130 rfl ?_
    cases h
    exact z_zret dX12_isSign_131 rfl rfl
  have zhc15 := i32ne hc15 (z := 38) rfl
  by_cases hc16 : x0 = (39 : Int32)
  · refine y_sw (39 : Int32) (39) 130 dX12_isSign_1 hc16 rfl (by decide) (by decide) rfl rfl ?_
    refine z_iconst (M := mX12_isSign) (v := 0) dX12_isSign_130 rfl ?_
    cases h
    exact z_zret dX12_isSign_131 rfl rfl
  have zhc16 := i32ne hc16 (z := 39) rfl
  by_cases hc17 : x0 = (44 : Int32)
  · refine y_sw (44 : Int32) (44) 130 dX12_isSign_1 hc17 rfl (by decide) (by decide) rfl rfl ?_
    refine z_iconst (M := mX12_isSign) (v := 0) dX12_isSign_130 rfl ?_
    cases h
    exact z_zret dX12_isSign_131 rfl rfl
  have zhc17 := i32ne hc17 (z := 44) rfl
  by_cases hc18 : x0 = (46 : Int32)
  · refine y_sw (46 : Int32) (46) 130 dX12_isSign_1 hc18 rfl (by decide) (by decide) rfl rfl ?_
    refine z_iconst (M := mX12_isSign) (v := 0) dX12_isSign_130 rfl ?_
    cases h
    exact z_zret dX12_isSign_131 rfl rfl
  have zhc18 := i32ne hc18 (z := 46) rfl
  by_cases hc19 : x0 = (48 : Int32)
  · refine y_sw (48 : Int32) (48) 130 dX12_isSign_1 hc19 rfl (by decide) (by decide) rfl rfl ?_
    refine z_iconst (M := mX12_isSign) (v := 0) dX12_isSign_130 rfl ?_
    cases h
    exact z_zret dX12_isSign_131 rfl rfl
  have zhc19 := i32ne hc19 (z := 48) rfl
  by_cases hc20 : x0 = (49 : Int32)
  · refine y_sw (49 : Int32) (49) 130 dX12_isSign_1 hc20 rfl (by decide) (by decide) rfl rfl ?_
    refine z_iconst (M := mX12_isSign) (v := 0) dX12_isSign_130 rfl ?_
    cases h
    exact z_zret dX12_isSign_131 rfl rfl
  have zhc20 := i32ne hc20 (z := 49) rfl
  by_cases hc21 : x0 = (50 : Int32)
  · refine y_sw (50 : Int32) (50) 130 dX12_isSign_1 hc21 rfl (by decide) (by decide) rfl rfl ?_
    refine z_iconst (M := mX12_isSign) (v := 0) dX12_isSign_130 rfl ?_
    cases h
    exact z_zret dX12_isSign_131 rfl rfl
  have zhc21 := i32ne hc21 (z := 50) rfl
  by_cases hc22 : x0 = (51 : Int32)
  · refine y_sw (51 : Int32) (51) 130 dX12_isSign_1 hc22 rfl (by decide) (by decide) rfl rfl ?_
    refine z_iconst (M := mX12_isSign) (v := 0) dX12_isSign_130 rfl ?_
    cases h
    exact z_zret dX12_isSign_131 rfl rfl
  have zhc22 := i32ne hc22 (z := 51) rfl
  by_cases hc23 : x0 = (52 : Int32)
  · refine y_sw (52 : Int32) (52) 130 dX12_isSign_1 hc23 rfl (by decide) (by decide) rfl rfl ?_
    refine z_iconst (M := mX12_isSign) (v := 0) dX12_isSign_130 rfl ?_
    cases h
    exact z_zret dX12_isSign_131 rfl rfl
  have zhc23 := i32ne hc23 (z := 52) rfl
  by_cases hc24 : x0 = (53 : Int32)
  · refine y_sw (53 : Int32) (53) 130 dX12_isSign_1 hc24 rfl (by decide) (by decide) rfl rfl ?_
    refine z_iconst (M := mX12_isSign) (v := 0) dX12_isSign_130 rfl ?_
    cases h
    exact z_zret dX12_isSign_131 rfl rfl
  have zhc24 := i32ne hc24 (z := 53) rfl
  by_cases hc25 : x0 = (54 : Int32)
  · refine y_sw (54 : Int32) (54) 130 dX12_isSign_1 hc25 rfl (by decide) (by decide) rfl rfl ?_
    refine z_iconst (M := mX12_isSign) (v := 0) dX12_isSign_130 rfl ?_
    cases h
    exact z_zret dX12_isSign_131 rfl rfl
  have zhc25 := i32ne hc25 (z := 54) rfl
  by_cases hc26 : x0 = (55 : Int32)
  · refine y_sw (55 : Int32) (55) 130 dX12_isSign_1 hc26 rfl (by decide) (by decide) rfl rfl ?_
    refine z_iconst (M := mX12_isSign) (v := 0) dX12_isSign_130 rfl ?_
    cases h
    exact z_zret dX12_isSign_131 rfl rfl
  have zhc26 := i32ne hc26 (z := 55) rfl
  by_cases hc27 : x0 = (56 : Int32)
  · refine y_sw (56 : Int32) (56) 130 dX12_isSign_1 hc27 rfl (by decide) (by decide) rfl rfl ?_
    refine z_iconst (M := mX12_isSign) (v := 0) dX12_isSign_130 rfl ?_
    cases h
    exact z_zret dX12_isSign_131 rfl rfl
  have zhc27 := i32ne hc27 (z := 56) rfl
  by_cases hc28 : x0 = (57 : Int32)
  · refine y_sw (57 : Int32) (57) 130 dX12_isSign_1 hc28 rfl (by decide) (by decide) rfl rfl ?_
    refine z_iconst (M := mX12_isSign) (v := 0) dX12_isSign_130 rfl ?_
    cases h
    exact z_zret dX12_isSign_131 rfl rfl
  have zhc28 := i32ne hc28 (z := 57) rfl
  refine z_tableOut 130 dX12_isSign_1 (by omega) rfl ?_
  refine z_iconst (M := mX12_isSign) (v := 0) dX12_isSign_130 rfl ?_
  cases h
  exact z_zret dX12_isSign_131 rfl rfl
theorem ct_Md_isSign {g : GG} {d : Nat} {x0 : Int32} {μ : Mm} {r : Bool} (hd0 : 1 ≤ d)  (h : Md_isSign x0 = some r) : Ct g d mX12_isSign [.int x0] μ (some (.int (b2i r)), μ) := y_entry in_X12_isSign (Nat.le_of_ble_eq_true rfl) rfl (t_Md_isSign hd0 x0 r h)
-- FuseMinutesModel.nextToken()V
theorem dX12_nextToken_0 : decode cX12_nextToken 0 = .ok (.aload_n 0, 1) := by decide +kernel
theorem dX12_nextToken_1 : decode cX12_nextToken 1 = .ok (.aload_n 0, 1) := by decide +kernel
theorem dX12_nextToken_2 : decode cX12_nextToken 2 = .ok (.getfield 125, 3) := by decide +kernel
theorem dX12_nextToken_5 : decode cX12_nextToken 5 = .ok (.invokevirtual 128, 3) := by decide +kernel
theorem dX12_nextToken_8 : decode cX12_nextToken 8 = .ok (.bipush 32, 2) := by decide +kernel
theorem dX12_nextToken_10 : decode cX12_nextToken 10 = .ok (.if_icmp .eq 16, 3) := by decide +kernel
theorem dX12_nextToken_13 : decode cX12_nextToken 13 = .ok (.aload_n 0, 1) := by decide +kernel
theorem dX12_nextToken_14 : decode cX12_nextToken 14 = .ok (.aload_n 0, 1) := by decide +kernel
theorem dX12_nextToken_15 : decode cX12_nextToken 15 = .ok (.getfield 125, 3) := by decide +kernel
theorem dX12_nextToken_18 : decode cX12_nextToken 18 = .ok (.invokevirtual 128, 3) := by decide +kernel
theorem dX12_nextToken_21 : decode cX12_nextToken 21 = .ok (.bipush 10, 2) := by decide +kernel
theorem dX12_nextToken_23 : decode cX12_nextToken 23 = .ok (.if_icmp .ne 16, 3) := by decide +kernel
theorem dX12_nextToken_26 : decode cX12_nextToken 26 = .ok (.aload_n 0, 1) := by decide +kernel
theorem dX12_nextToken_27 : decode cX12_nextToken 27 = .ok (.dup, 1) := by decide +kernel
theorem dX12_nextToken_28 : decode cX12_nextToken 28 = .ok (.getfield 125, 3) := by decide +kernel
theorem dX12_nextToken_31 : decode cX12_nextToken 31 = .ok (.iconst 1, 1) := by decide +kernel
theorem dX12_nextToken_32 : decode cX12_nextToken 32 = .ok (.iadd, 1) := by decide +kernel
theorem dX12_nextToken_33 : decode cX12_nextToken 33 = .ok (.putfield 125, 3) := by decide +kernel
theorem dX12_nextToken_36 : decode cX12_nextToken 36 = .ok (.goto (-36), 3) := by decide +kernel
theorem dX12_nextToken_39 : decode cX12_nextToken 39 = .ok (.aload_n 0, 1) := by decide +kernel
theorem dX12_nextToken_40 : decode cX12_nextToken 40 = .ok (.aload_n 0, 1) := by decide +kernel
theorem dX12_nextToken_41 : decode cX12_nextToken 41 = .ok (.getfield 125, 3) := by decide +kernel
theorem dX12_nextToken_44 : decode cX12_nextToken 44 = .ok (.putfield 131, 3) := by decide +kernel
theorem dX12_nextToken_47 : decode cX12_nextToken 47 = .ok (.aload_n 0, 1) := by decide +kernel
theorem dX12_nextToken_48 : decode cX12_nextToken 48 = .ok (.aload_n 0, 1) := by decide +kernel
theorem dX12_nextToken_49 : decode cX12_nextToken 49 = .ok (.getfield 125, 3) := by decide +kernel
theorem dX12_nextToken_52 : decode cX12_nextToken 52 = .ok (.invokevirtual 128, 3) := by decide +kernel
theorem dX12_nextToken_55 : decode cX12_nextToken 55 = .ok (.istore_n 1, 1) := by decide +kernel
theorem dX12_nextToken_56 : decode cX12_nextToken 56 = .ok (.iload_n 1, 1) := by decide +kernel
theorem dX12_nextToken_57 : decode cX12_nextToken 57 = .ok (.ifCond .ge 11, 3) := by decide +kernel
theorem dX12_nextToken_60 : decode cX12_nextToken 60 = .ok (.aload_n 0, 1) := by decide +kernel
theorem dX12_nextToken_61 : decode cX12_nextToken 61 = .ok (.iconst 0, 1) := by decide +kernel
theorem dX12_nextToken_62 : decode cX12_nextToken 62 = .ok (.putfield 134, 3) := by decide +kernel
theorem dX12_nextToken_65 : decode cX12_nextToken 65 = .ok (.goto 245, 3) := by decide +kernel
theorem dX12_nextToken_68 : decode cX12_nextToken 68 = .ok (.iload_n 1, 1) := by decide +kernel
theorem dX12_nextToken_69 : decode cX12_nextToken 69 = .ok (.invokestatic 137, 3) := by decide +kernel
theorem dX12_nextToken_72 : decode cX12_nextToken 72 = .ok (.ifCond .eq 79, 3) := by decide +kernel
theorem dX12_nextToken_75 : decode cX12_nextToken 75 = .ok (.aload_n 0, 1) := by decide +kernel
theorem dX12_nextToken_76 : decode cX12_nextToken 76 = .ok (.iconst 1, 1) := by decide +kernel
theorem dX12_nextToken_77 : decode cX12_nextToken 77 = .ok (.putfield 134, 3) := by decide +kernel
theorem dX12_nextToken_80 : decode cX12_nextToken 80 = .ok (.aload_n 0, 1) := by decide +kernel
theorem dX12_nextToken_81 : decode cX12_nextToken 81 = .ok (.iconst 0, 1) := by decide +kernel
theorem dX12_nextToken_82 : decode cX12_nextToken 82 = .ok (.putfield 140, 3) := by decide +kernel
theorem dX12_nextToken_85 : decode cX12_nextToken 85 = .ok (.aload_n 0, 1) := by decide +kernel
theorem dX12_nextToken_86 : decode cX12_nextToken 86 = .ok (.aload_n 0, 1) := by decide +kernel
theorem dX12_nextToken_87 : decode cX12_nextToken 87 = .ok (.getfield 125, 3) := by decide +kernel
theorem dX12_nextToken_90 : decode cX12_nextToken 90 = .ok (.invokevirtual 128, 3) := by decide +kernel
theorem dX12_nextToken_93 : decode cX12_nextToken 93 = .ok (.invokestatic 137, 3) := by decide +kernel
theorem dX12_nextToken_96 : decode cX12_nextToken 96 = .ok (.ifCond .eq 214, 3) := by decide +kernel
theorem dX12_nextToken_99 : decode cX12_nextToken 99 = .ok (.aload_n 0, 1) := by decide +kernel
theorem dX12_nextToken_100 : decode cX12_nextToken 100 = .ok (.aload_n 0, 1) := by decide +kernel
theorem dX12_nextToken_101 : decode cX12_nextToken 101 = .ok (.getfield 140, 3) := by decide +kernel
theorem dX12_nextToken_104 : decode cX12_nextToken 104 = .ok (.ldc 143, 2) := by decide +kernel
theorem dX12_nextToken_106 : decode cX12_nextToken 106 = .ok (.if_icmp .le 10, 3) := by decide +kernel
theorem dX12_nextToken_109 : decode cX12_nextToken 109 = .ok (.aload_n 0, 1) := by decide +kernel
theorem dX12_nextToken_110 : decode cX12_nextToken 110 = .ok (.getfield 140, 3) := by decide +kernel
theorem dX12_nextToken_113 : decode cX12_nextToken 113 = .ok (.goto 22, 3) := by decide +kernel
theorem dX12_nextToken_116 : decode cX12_nextToken 116 = .ok (.bipush 10, 2) := by decide +kernel
theorem dX12_nextToken_118 : decode cX12_nextToken 118 = .ok (.aload_n 0, 1) := by decide +kernel
theorem dX12_nextToken_119 : decode cX12_nextToken 119 = .ok (.getfield 140, 3) := by decide +kernel
theorem dX12_nextToken_122 : decode cX12_nextToken 122 = .ok (.imul, 1) := by decide +kernel
theorem dX12_nextToken_123 : decode cX12_nextToken 123 = .ok (.aload_n 0, 1) := by decide +kernel
theorem dX12_nextToken_124 : decode cX12_nextToken 124 = .ok (.aload_n 0, 1) := by decide +kernel
theorem dX12_nextToken_125 : decode cX12_nextToken 125 = .ok (.getfield 125, 3) := by decide +kernel
theorem dX12_nextToken_128 : decode cX12_nextToken 128 = .ok (.invokevirtual 128, 3) := by decide +kernel
theorem dX12_nextToken_131 : decode cX12_nextToken 131 = .ok (.iadd, 1) := by decide +kernel
theorem dX12_nextToken_132 : decode cX12_nextToken 132 = .ok (.bipush 48, 2) := by decide +kernel
theorem dX12_nextToken_134 : decode cX12_nextToken 134 = .ok (.isub, 1) := by decide +kernel
theorem dX12_nextToken_135 : decode cX12_nextToken 135 = .ok (.putfield 140, 3) := by decide +kernel
theorem dX12_nextToken_138 : decode cX12_nextToken 138 = .ok (.aload_n 0, 1) := by decide +kernel
theorem dX12_nextToken_139 : decode cX12_nextToken 139 = .ok (.dup, 1) := by decide +kernel
theorem dX12_nextToken_140 : decode cX12_nextToken 140 = .ok (.getfield 125, 3) := by decide +kernel
theorem dX12_nextToken_143 : decode cX12_nextToken 143 = .ok (.iconst 1, 1) := by decide +kernel
theorem dX12_nextToken_144 : decode cX12_nextToken 144 = .ok (.iadd, 1) := by decide +kernel
theorem dX12_nextToken_145 : decode cX12_nextToken 145 = .ok (.putfield 125, 3) := by decide +kernel
theorem dX12_nextToken_148 : decode cX12_nextToken 148 = .ok (.goto (-63), 3) := by decide +kernel
theorem dX12_nextToken_151 : decode cX12_nextToken 151 = .ok (.iload_n 1, 1) := by decide +kernel
theorem dX12_nextToken_152 : decode cX12_nextToken 152 = .ok (.invokestatic 144, 3) := by decide +kernel
theorem dX12_nextToken_155 : decode cX12_nextToken 155 = .ok (.ifCond .eq 79, 3) := by decide +kernel
theorem dX12_nextToken_158 : decode cX12_nextToken 158 = .ok (.aload_n 0, 1) := by decide +kernel
theorem dX12_nextToken_159 : decode cX12_nextToken 159 = .ok (.iconst 2, 1) := by decide +kernel
theorem dX12_nextToken_160 : decode cX12_nextToken 160 = .ok (.putfield 134, 3) := by decide +kernel
theorem dX12_nextToken_163 : decode cX12_nextToken 163 = .ok (.aload_n 0, 1) := by decide +kernel
theorem dX12_nextToken_164 : decode cX12_nextToken 164 = .ok (.lconst 0, 1) := by decide +kernel
theorem dX12_nextToken_165 : decode cX12_nextToken 165 = .ok (.putfield 147, 3) := by decide +kernel
theorem dX12_nextToken_168 : decode cX12_nextToken 168 = .ok (.aload_n 0, 1) := by decide +kernel
theorem dX12_nextToken_169 : decode cX12_nextToken 169 = .ok (.aload_n 0, 1) := by decide +kernel
theorem dX12_nextToken_170 : decode cX12_nextToken 170 = .ok (.getfield 125, 3) := by decide +kernel
theorem dX12_nextToken_173 : decode cX12_nextToken 173 = .ok (.invokevirtual 128, 3) := by decide +kernel
theorem dX12_nextToken_176 : decode cX12_nextToken 176 = .ok (.invokestatic 144, 3) := by decide +kernel
theorem dX12_nextToken_179 : decode cX12_nextToken 179 = .ok (.ifCond .eq 131, 3) := by decide +kernel
theorem dX12_nextToken_182 : decode cX12_nextToken 182 = .ok (.aload_n 0, 1) := by decide +kernel
theorem dX12_nextToken_183 : decode cX12_nextToken 183 = .ok (.aload_n 0, 1) := by decide +kernel
theorem dX12_nextToken_184 : decode cX12_nextToken 184 = .ok (.getfield 147, 3) := by decide +kernel
theorem dX12_nextToken_187 : decode cX12_nextToken 187 = .ok (.bipush 48, 2) := by decide +kernel
theorem dX12_nextToken_189 : decode cX12_nextToken 189 = .ok (.lshr, 1) := by decide +kernel
theorem dX12_nextToken_190 : decode cX12_nextToken 190 = .ok (.lconst 0, 1) := by decide +kernel
theorem dX12_nextToken_191 : decode cX12_nextToken 191 = .ok (.lcmp, 1) := by decide +kernel
theorem dX12_nextToken_192 : decode cX12_nextToken 192 = .ok (.ifCond .eq 9, 3) := by decide +kernel
theorem dX12_nextToken_195 : decode cX12_nextToken 195 = .ok (.ldc2_w 151, 3) := by decide +kernel
theorem dX12_nextToken_198 : decode cX12_nextToken 198 = .ok (.goto 20, 3) := by decide +kernel
theorem dX12_nextToken_201 : decode cX12_nextToken 201 = .ok (.aload_n 0, 1) := by decide +kernel
theorem dX12_nextToken_202 : decode cX12_nextToken 202 = .ok (.getfield 147, 3) := by decide +kernel
theorem dX12_nextToken_205 : decode cX12_nextToken 205 = .ok (.bipush 8, 2) := by decide +kernel
theorem dX12_nextToken_207 : decode cX12_nextToken 207 = .ok (.lshl, 1) := by decide +kernel
theorem dX12_nextToken_208 : decode cX12_nextToken 208 = .ok (.aload_n 0, 1) := by decide +kernel
theorem dX12_nextToken_209 : decode cX12_nextToken 209 = .ok (.aload_n 0, 1) := by decide +kernel
theorem dX12_nextToken_210 : decode cX12_nextToken 210 = .ok (.getfield 125, 3) := by decide +kernel
theorem dX12_nextToken_213 : decode cX12_nextToken 213 = .ok (.invokevirtual 128, 3) := by decide +kernel
theorem dX12_nextToken_216 : decode cX12_nextToken 216 = .ok (.i2l, 1) := by decide +kernel
theorem dX12_nextToken_217 : decode cX12_nextToken 217 = .ok (.lor, 1) := by decide +kernel
theorem dX12_nextToken_218 : decode cX12_nextToken 218 = .ok (.putfield 147, 3) := by decide +kernel
theorem dX12_nextToken_221 : decode cX12_nextToken 221 = .ok (.aload_n 0, 1) := by decide +kernel
theorem dX12_nextToken_222 : decode cX12_nextToken 222 = .ok (.dup, 1) := by decide +kernel
theorem dX12_nextToken_223 : decode cX12_nextToken 223 = .ok (.getfield 125, 3) := by decide +kernel
theorem dX12_nextToken_226 : decode cX12_nextToken 226 = .ok (.iconst 1, 1) := by decide +kernel
theorem dX12_nextToken_227 : decode cX12_nextToken 227 = .ok (.iadd, 1) := by decide +kernel
theorem dX12_nextToken_228 : decode cX12_nextToken 228 = .ok (.putfield 125, 3) := by decide +kernel
theorem dX12_nextToken_231 : decode cX12_nextToken 231 = .ok (.goto (-63), 3) := by decide +kernel
theorem dX12_nextToken_234 : decode cX12_nextToken 234 = .ok (.aload_n 0, 1) := by decide +kernel
theorem dX12_nextToken_235 : decode cX12_nextToken 235 = .ok (.iload_n 1, 1) := by decide +kernel
theorem dX12_nextToken_236 : decode cX12_nextToken 236 = .ok (.invokestatic 153, 3) := by decide +kernel
theorem dX12_nextToken_239 : decode cX12_nextToken 239 = .ok (.ifCond .eq 7, 3) := by decide +kernel
theorem dX12_nextToken_242 : decode cX12_nextToken 242 = .ok (.iload_n 1, 1) := by decide +kernel
theorem dX12_nextToken_243 : decode cX12_nextToken 243 = .ok (.goto 4, 3) := by decide +kernel
theorem dX12_nextToken_246 : decode cX12_nextToken 246 = .ok (.iconst 3, 1) := by decide +kernel
theorem dX12_nextToken_247 : decode cX12_nextToken 247 = .ok (.putfield 134, 3) := by decide +kernel
theorem dX12_nextToken_250 : decode cX12_nextToken 250 = .ok (.aload_n 0, 1) := by decide +kernel
theorem dX12_nextToken_251 : decode cX12_nextToken 251 = .ok (.dup, 1) := by decide +kernel
theorem dX12_nextToken_252 : decode cX12_nextToken 252 = .ok (.getfield 125, 3) := by decide +kernel
theorem dX12_nextToken_255 : decode cX12_nextToken 255 = .ok (.iconst 1, 1) := by decide +kernel
theorem dX12_nextToken_256 : decode cX12_nextToken 256 = .ok (.iadd, 1) := by decide +kernel
theorem dX12_nextToken_257 : decode cX12_nextToken 257 = .ok (.putfield 125, 3) := by decide +kernel
theorem dX12_nextToken_260 : decode cX12_nextToken 260 = .ok (.iload_n 1, 1) := by decide +kernel
theorem dX12_nextToken_261 : decode cX12_nextToken 261 = .ok (.bipush 60, 2) := by decide +kernel
theorem dX12_nextToken_263 : decode cX12_nextToken 263 = .ok (.if_icmp .eq 9, 3) := by decide +kernel
theorem dX12_nextToken_266 : decode cX12_nextToken 266 = .ok (.iload_n 1, 1) := by decide +kernel
theorem dX12_nextToken_267 : decode cX12_nextToken 267 = .ok (.bipush 62, 2) := by decide +kernel
theorem dX12_nextToken_269 : decode cX12_nextToken 269 = .ok (.if_icmp .ne 41, 3) := by decide +kernel
theorem dX12_nextToken_272 : decode cX12_nextToken 272 = .ok (.aload_n 0, 1) := by decide +kernel
theorem dX12_nextToken_273 : decode cX12_nextToken 273 = .ok (.aload_n 0, 1) := by decide +kernel
theorem dX12_nextToken_274 : decode cX12_nextToken 274 = .ok (.getfield 125, 3) := by decide +kernel
theorem dX12_nextToken_277 : decode cX12_nextToken 277 = .ok (.invokevirtual 128, 3) := by decide +kernel
theorem dX12_nextToken_280 : decode cX12_nextToken 280 = .ok (.bipush 61, 2) := by decide +kernel
theorem dX12_nextToken_282 : decode cX12_nextToken 282 = .ok (.if_icmp .ne 28, 3) := by decide +kernel
theorem dX12_nextToken_285 : decode cX12_nextToken 285 = .ok (.aload_n 0, 1) := by decide +kernel
theorem dX12_nextToken_286 : decode cX12_nextToken 286 = .ok (.iload_n 1, 1) := by decide +kernel
theorem dX12_nextToken_287 : decode cX12_nextToken 287 = .ok (.bipush 60, 2) := by decide +kernel
theorem dX12_nextToken_289 : decode cX12_nextToken 289 = .ok (.if_icmp .ne 7, 3) := by decide +kernel
theorem dX12_nextToken_292 : decode cX12_nextToken 292 = .ok (.iconst 4, 1) := by decide +kernel
theorem dX12_nextToken_293 : decode cX12_nextToken 293 = .ok (.goto 4, 3) := by decide +kernel
theorem dX12_nextToken_296 : decode cX12_nextToken 296 = .ok (.iconst 5, 1) := by decide +kernel
theorem dX12_nextToken_297 : decode cX12_nextToken 297 = .ok (.putfield 134, 3) := by decide +kernel
theorem dX12_nextToken_300 : decode cX12_nextToken 300 = .ok (.aload_n 0, 1) := by decide +kernel
theorem dX12_nextToken_301 : decode cX12_nextToken 301 = .ok (.dup, 1) := by decide +kernel
theorem dX12_nextToken_302 : decode cX12_nextToken 302 = .ok (.getfield 125, 3) := by decide +kernel
theorem dX12_nextToken_305 : decode cX12_nextToken 305 = .ok (.iconst 1, 1) := by decide +kernel
theorem dX12_nextToken_306 : decode cX12_nextToken 306 = .ok (.iadd, 1) := by decide +kernel
theorem dX12_nextToken_307 : decode cX12_nextToken 307 = .ok (.putfield 125, 3) := by decide +kernel
theorem dX12_nextToken_310 : decode cX12_nextToken 310 = .ok (.return_, 1) := by decide +kernel
def Md_nextToken_26 (k0 : Nm → Option Nm) (ν : Nm) : Option Nm :=
  k0 (si ν 313 7 ((gi ν 313 7) + (1 : Int32)))
set_option maxRecDepth 100000 in
set_option maxHeartbeats 4000000 in
theorem t_Md_nextToken_26 {g : GG} {d : Nat} (hd0 : 2 ≤ d) {k0 : Nm → Option Nm} (hk0 : ∀ (ν : Nm) (r : Nm), k0 ν = some r → Z g d (0, 0) mX12_nextToken 333 0 0 0 [(0, .ref 313)] [] (zem ν) (zF g (none, zem r))) : ∀ (ν : Nm) (r : Nm), Md_nextToken_26 k0 ν = some r → Z g d (0, 0) mX12_nextToken 333 0 0 26 [(0, .ref 313)] [] (zem ν) (zF g (none, zem r)) := by
  intro ν r h
  unfold Md_nextToken_26 at h
  refine z_aload_n dX12_nextToken_26 0 rfl ?_
  refine z_dup dX12_nextToken_27 rfl ?_
  refine y_getI dX12_nextToken_28 zk_313 flRX12_125 ?_
  refine z_iconst (M := mX12_nextToken) (v := 1) dX12_nextToken_31 rfl ?_
  refine z_iadd dX12_nextToken_32 ?_
  refine y_putI dX12_nextToken_33 zk_313 flRX12_125 ⟨rfl, rfl⟩ ?_
  refine z_goto 0 dX12_nextToken_36 rfl ?_
  exact hk0 (si ν 313 7 ((gi ν 313 7) + (1 : Int32))) _ h
def Md_nextToken_135 (k85 : Nm → Option Nm) (s0 : Int32) (ν : Nm) : Option Nm :=
  k85 (si (si ν 313 10 s0) 313 7 ((gi (si ν 313 10 s0) 313 7) + (1 : Int32)))
set_option maxRecDepth 100000 in
set_option maxHeartbeats 4000000 in
theorem t_Md_nextToken_135 {g : GG} {d : Nat} (hd0 : 2 ≤ d) {k85 : Nm → Option Nm} (hk85 : ∀ (ν : Nm) (r : Nm), k85 ν = some r → Z g d (0, 0) mX12_nextToken 333 0 0 85 [(0, .ref 313)] [] (zem ν) (zF g (none, zem r))) : ∀ (s0 : Int32) (ν : Nm) (r : Nm), Md_nextToken_135 k85 s0 ν = some r → Z g d (0, 0) mX12_nextToken 333 0 0 135 [(0, .ref 313)] [.int s0, .ref 313] (zem ν) (zF g (none, zem r)) := by
  intro s0 ν r h
  unfold Md_nextToken_135 at h
  refine y_putI dX12_nextToken_135 zk_313 flRX12_140 ⟨rfl, rfl⟩ ?_
  refine z_aload_n dX12_nextToken_138 0 rfl ?_
  refine z_dup dX12_nextToken_139 rfl ?_
  refine y_getI dX12_nextToken_140 zk_313 flRX12_125 ?_
  refine z_iconst (M := mX12_nextToken) (v := 1) dX12_nextToken_143 rfl ?_
  refine z_iadd dX12_nextToken_144 ?_
  refine y_putI dX12_nextToken_145 zk_313 flRX12_125 ⟨rfl, rfl⟩ ?_
  refine z_goto 85 dX12_nextToken_148 rfl ?_
  exact hk85 (si (si ν 313 10 s0) 313 7 ((gi (si ν 313 10 s0) 313 7) + (1 : Int32))) _ h
def Md_nextToken_85 : Nat → Nm → Option Nm
  | 0, _ => none
  | f + 1, ν =>
    (Md_byteAt ν (gi ν 313 7)).bind fun v1 =>
    (Md_isFigure v1).bind fun v2 =>
    (if (b2i v2) = 0 then
      some ν
    else
      (if (gi ν 313 10) ≤ (99999 : Int32) then
        (Md_byteAt ν (gi ν 313 7)).bind fun v5 =>
        Md_nextToken_135 (Md_nextToken_85 f) ((((10 : Int32) * (gi ν 313 10)) + v5) - (48 : Int32)) ν
      else
        Md_nextToken_135 (Md_nextToken_85 f) (gi ν 313 10) ν))
set_option maxRecDepth 100000 in
set_option maxHeartbeats 4000000 in
theorem t_Md_nextToken_85 {g : GG} {d : Nat} (hd0 : 2 ≤ d) : ∀ (f : Nat), ∀ (ν : Nm) (r : Nm), Md_nextToken_85 f ν = some r → Z g d (0, 0) mX12_nextToken 333 0 0 85 [(0, .ref 313)] [] (zem ν) (zF g (none, zem r)) := by
  intro f
  induction f with
  | zero =>
    intro ν r h
    cases h
  | succ f ih =>
    intro ν r h
    rw [Md_nextToken_85] at h
    refine z_aload_n dX12_nextToken_85 0 rfl ?_
    refine z_aload_n dX12_nextToken_86 0 rfl ?_
    refine y_getI dX12_nextToken_87 zk_313 flRX12_125 ?_
    obtain ⟨v1, he1, h⟩ := obind h
    refine y_Vi (M := mX12_nextToken) (Y := mX12_byteAt) (d2 := d - 1) (As := [.int (gi ν 313 7)]) (st := []) dX12_nextToken_90 mlRX12_128 cv_X12_byteAt zk_313 (ct_Md_byteAt (dle (Nat.le_of_ble_eq_true rfl) hd0) he1) (dps (Nat.le_of_ble_eq_true rfl) hd0) rfl rfl (Nat.le_of_ble_eq_true rfl) ?_
    obtain ⟨v2, he2, h⟩ := obind h
    refine y_Si (M := mX12_nextToken) (Y := mX12_isFigure) (d2 := d - 1) (As := [.int v1]) (st := []) dX12_nextToken_93 mlRX12_137 cv_X12_isFigure (ct_Md_isFigure (dle (Nat.le_of_ble_eq_true rfl) hd0) he2) (dps (Nat.le_of_ble_eq_true rfl) hd0) rfl rfl (Nat.le_of_ble_eq_true rfl) ?_
    refine z_if_eq 310 dX12_nextToken_96 rfl (fun hc3 => ?_) (fun hc3 => ?_)
    · replace h := oT hc3 h
      cases h
      exact z_vret dX12_nextToken_310 rfl
    · replace h := oF hc3 h
      refine z_aload_n dX12_nextToken_99 0 rfl ?_
      refine z_aload_n dX12_nextToken_100 0 rfl ?_
      refine y_getI dX12_nextToken_101 zk_313 flRX12_140 ?_
      refine z_ldc dX12_nextToken_104 csRX12_143 ?_
      refine z_icmp_le 116 dX12_nextToken_106 rfl (fun hc4 => ?_) (fun hc4 => ?_)
      · replace h := oT hc4 h
        refine z_bipush (M := mX12_nextToken) (v := 10) dX12_nextToken_116 rfl ?_
        refine z_aload_n dX12_nextToken_118 0 rfl ?_
        refine y_getI dX12_nextToken_119 zk_313 flRX12_140 ?_
        refine z_imul dX12_nextToken_122 ?_
        refine z_aload_n dX12_nextToken_123 0 rfl ?_
        refine z_aload_n dX12_nextToken_124 0 rfl ?_
        refine y_getI dX12_nextToken_125 zk_313 flRX12_125 ?_
        obtain ⟨v5, he5, h⟩ := obind h
        refine y_Vi (M := mX12_nextToken) (Y := mX12_byteAt) (d2 := d - 1) (As := [.int (gi ν 313 7)]) (st := [.int ((10 : Int32) * (gi ν 313 10)), .ref 313]) dX12_nextToken_128 mlRX12_128 cv_X12_byteAt zk_313 (ct_Md_byteAt (dle (Nat.le_of_ble_eq_true rfl) hd0) he5) (dps (Nat.le_of_ble_eq_true rfl) hd0) rfl rfl (Nat.le_of_ble_eq_true rfl) ?_
        refine z_iadd dX12_nextToken_131 ?_
        refine z_bipush (M := mX12_nextToken) (v := 48) dX12_nextToken_132 rfl ?_
        refine z_isub dX12_nextToken_134 ?_
        exact t_Md_nextToken_135 hd0 ih ((((10 : Int32) * (gi ν 313 10)) + v5) - (48 : Int32)) ν _ h
      · replace h := oF hc4 h
        refine z_aload_n dX12_nextToken_109 0 rfl ?_
        refine y_getI dX12_nextToken_110 zk_313 flRX12_140 ?_
        refine z_goto 135 dX12_nextToken_113 rfl ?_
        exact t_Md_nextToken_135 hd0 ih (gi ν 313 10) ν _ h
def Md_nextToken_218 (k168 : Nm → Option Nm) (s0 : Int64) (ν : Nm) : Option Nm :=
  k168 (si (sl ν 313 11 s0) 313 7 ((gi (sl ν 313 11 s0) 313 7) + (1 : Int32)))
set_option maxRecDepth 100000 in
set_option maxHeartbeats 4000000 in
theorem t_Md_nextToken_218 {g : GG} {d : Nat} (hd0 : 2 ≤ d) {k168 : Nm → Option Nm} (hk168 : ∀ (ν : Nm) (r : Nm), k168 ν = some r → Z g d (0, 0) mX12_nextToken 333 0 0 168 [(0, .ref 313)] [] (zem ν) (zF g (none, zem r))) : ∀ (s0 : Int64) (ν : Nm) (r : Nm), Md_nextToken_218 k168 s0 ν = some r → Z g d (0, 0) mX12_nextToken 333 0 0 218 [(0, .ref 313)] [.long s0, .ref 313] (zem ν) (zF g (none, zem r)) := by
  intro s0 ν r h
  unfold Md_nextToken_218 at h
  refine y_putL dX12_nextToken_218 zk_313 flRX12_147 ⟨rfl, rfl⟩ ?_
  refine z_aload_n dX12_nextToken_221 0 rfl ?_
  refine z_dup dX12_nextToken_222 rfl ?_
  refine y_getI dX12_nextToken_223 zk_313 flRX12_125 ?_
  refine z_iconst (M := mX12_nextToken) (v := 1) dX12_nextToken_226 rfl ?_
  refine z_iadd dX12_nextToken_227 ?_
  refine y_putI dX12_nextToken_228 zk_313 flRX12_125 ⟨rfl, rfl⟩ ?_
  refine z_goto 168 dX12_nextToken_231 rfl ?_
  exact hk168 (si (sl ν 313 11 s0) 313 7 ((gi (sl ν 313 11 s0) 313 7) + (1 : Int32))) _ h
def Md_nextToken_168 : Nat → Nm → Option Nm
  | 0, _ => none
  | f + 1, ν =>
    (Md_byteAt ν (gi ν 313 7)).bind fun v1 =>
    (Md_isLetterByte v1).bind fun v2 =>
    (if (b2i v2) = 0 then
      some ν
    else
      (if (lg_cmp ((gl ν 313 11) >>> ((48 : Int32).toInt64 &&& 63)) (0 : Int64)) = 0 then
        (Md_byteAt ν (gi ν 313 7)).bind fun v5 =>
        Md_nextToken_218 (Md_nextToken_168 f) (((gl ν 313 11) <<< ((8 : Int32).toInt64 &&& 63)) ||| v5.toInt64) ν
      else
        Md_nextToken_218 (Md_nextToken_168 f) (1152921504606846976 : Int64) ν))
set_option maxRecDepth 100000 in
set_option maxHeartbeats 4000000 in
theorem t_Md_nextToken_168 {g : GG} {d : Nat} (hd0 : 2 ≤ d) : ∀ (f : Nat), ∀ (ν : Nm) (r : Nm), Md_nextToken_168 f ν = some r → Z g d (0, 0) mX12_nextToken 333 0 0 168 [(0, .ref 313)] [] (zem ν) (zF g (none, zem r)) := by
  intro f
  induction f with
  | zero =>
    intro ν r h
    cases h
  | succ f ih =>
    intro ν r h
    rw [Md_nextToken_168] at h
    refine z_aload_n dX12_nextToken_168 0 rfl ?_
    refine z_aload_n dX12_nextToken_169 0 rfl ?_
    refine y_getI dX12_nextToken_170 zk_313 flRX12_125 ?_
    obtain ⟨v1, he1, h⟩ := obind h
    refine y_Vi (M := mX12_nextToken) (Y := mX12_byteAt) (d2 := d - 1) (As := [.int (gi ν 313 7)]) (st := []) dX12_nextToken_173 mlRX12_128 cv_X12_byteAt zk_313 (ct_Md_byteAt (dle (Nat.le_of_ble_eq_true rfl) hd0) he1) (dps (Nat.le_of_ble_eq_true rfl) hd0) rfl rfl (Nat.le_of_ble_eq_true rfl) ?_
    obtain ⟨v2, he2, h⟩ := obind h
    refine y_Si (M := mX12_nextToken) (Y := mX12_isLetterByte) (d2 := d - 1) (As := [.int v1]) (st := []) dX12_nextToken_176 mlRX12_144 cv_X12_isLetterByte (ct_Md_isLetterByte (dle (Nat.le_of_ble_eq_true rfl) hd0) he2) (dps (Nat.le_of_ble_eq_true rfl) hd0) rfl rfl (Nat.le_of_ble_eq_true rfl) ?_
    refine z_if_eq 310 dX12_nextToken_179 rfl (fun hc3 => ?_) (fun hc3 => ?_)
    · replace h := oT hc3 h
      cases h
      exact z_vret dX12_nextToken_310 rfl
    · replace h := oF hc3 h
      refine z_aload_n dX12_nextToken_182 0 rfl ?_
      refine z_aload_n dX12_nextToken_183 0 rfl ?_
      refine y_getL dX12_nextToken_184 zk_313 flRX12_147 ?_
      refine z_bipush (M := mX12_nextToken) (v := 48) dX12_nextToken_187 rfl ?_
      refine z_lshr dX12_nextToken_189 ?_
      refine z_lconst (M := mX12_nextToken) (v := 0) dX12_nextToken_190 rfl ?_
      refine z_lcmp dX12_nextToken_191 ?_
      refine z_if_eq 201 dX12_nextToken_192 rfl (fun hc4 => ?_) (fun hc4 => ?_)
      · replace h := oT hc4 h
        refine z_aload_n dX12_nextToken_201 0 rfl ?_
        refine y_getL dX12_nextToken_202 zk_313 flRX12_147 ?_
        refine z_bipush (M := mX12_nextToken) (v := 8) dX12_nextToken_205 rfl ?_
        refine z_lshl dX12_nextToken_207 ?_
        refine z_aload_n dX12_nextToken_208 0 rfl ?_
        refine z_aload_n dX12_nextToken_209 0 rfl ?_
        refine y_getI dX12_nextToken_210 zk_313 flRX12_125 ?_
        obtain ⟨v5, he5, h⟩ := obind h
        refine y_Vi (M := mX12_nextToken) (Y := mX12_byteAt) (d2 := d - 1) (As := [.int (gi ν 313 7)]) (st := [.long ((gl ν 313 11) <<< ((8 : Int32).toInt64 &&& 63)), .ref 313]) dX12_nextToken_213 mlRX12_128 cv_X12_byteAt zk_313 (ct_Md_byteAt (dle (Nat.le_of_ble_eq_true rfl) hd0) he5) (dps (Nat.le_of_ble_eq_true rfl) hd0) rfl rfl (Nat.le_of_ble_eq_true rfl) ?_
        refine z_i2l dX12_nextToken_216 ?_
        refine z_lor dX12_nextToken_217 ?_
        exact t_Md_nextToken_218 hd0 ih (((gl ν 313 11) <<< ((8 : Int32).toInt64 &&& 63)) ||| v5.toInt64) ν _ h
      · replace h := oF hc4 h
        refine z_ldc2 dX12_nextToken_195 csRX12_151 ?_
        refine z_goto 218 dX12_nextToken_198 rfl ?_
        exact t_Md_nextToken_218 hd0 ih (1152921504606846976 : Int64) ν _ h
def Md_nextToken_297 (s0 : Int32) (ν : Nm) : Option Nm :=
  some (si (si ν 313 9 s0) 313 7 ((gi (si ν 313 9 s0) 313 7) + (1 : Int32)))
set_option maxRecDepth 100000 in
set_option maxHeartbeats 4000000 in
theorem t_Md_nextToken_297 {g : GG} {d : Nat} (hd0 : 2 ≤ d) : ∀ (s0 : Int32) (ν : Nm) (r : Nm), Md_nextToken_297 s0 ν = some r → Z g d (0, 0) mX12_nextToken 333 0 0 297 [(0, .ref 313)] [.int s0, .ref 313] (zem ν) (zF g (none, zem r)) := by
  intro s0 ν r h
  unfold Md_nextToken_297 at h
  refine y_putI dX12_nextToken_297 zk_313 flRX12_134 ⟨rfl, rfl⟩ ?_
  refine z_aload_n dX12_nextToken_300 0 rfl ?_
  refine z_dup dX12_nextToken_301 rfl ?_
  refine y_getI dX12_nextToken_302 zk_313 flRX12_125 ?_
  refine z_iconst (M := mX12_nextToken) (v := 1) dX12_nextToken_305 rfl ?_
  refine z_iadd dX12_nextToken_306 ?_
  refine y_putI dX12_nextToken_307 zk_313 flRX12_125 ⟨rfl, rfl⟩ ?_
  cases h
  exact z_vret dX12_nextToken_310 rfl
def Md_nextToken_272 (x1 : Int32) (ν : Nm) : Option Nm :=
  (Md_byteAt ν (gi ν 313 7)).bind fun v1 =>
  (if ¬ v1 = (61 : Int32) then
    some ν
  else
    (if ¬ x1 = (60 : Int32) then
      Md_nextToken_297 (5 : Int32) ν
    else
      Md_nextToken_297 (4 : Int32) ν))
set_option maxRecDepth 100000 in
set_option maxHeartbeats 4000000 in
theorem t_Md_nextToken_272 {g : GG} {d : Nat} (hd0 : 2 ≤ d) : ∀ (x1 : Int32) (ν : Nm) (r : Nm), Md_nextToken_272 x1 ν = some r → Z g d (0, 0) mX12_nextToken 333 0 0 272 [(0, .ref 313), (1, .int x1)] [] (zem ν) (zF g (none, zem r)) := by
  intro x1 ν r h
  unfold Md_nextToken_272 at h
  refine z_aload_n dX12_nextToken_272 0 rfl ?_
  refine z_aload_n dX12_nextToken_273 0 rfl ?_
  refine y_getI dX12_nextToken_274 zk_313 flRX12_125 ?_
  obtain ⟨v1, he1, h⟩ := obind h
  refine y_Vi (M := mX12_nextToken) (Y := mX12_byteAt) (d2 := d - 1) (As := [.int (gi ν 313 7)]) (st := []) dX12_nextToken_277 mlRX12_128 cv_X12_byteAt zk_313 (ct_Md_byteAt (dle (Nat.le_of_ble_eq_true rfl) hd0) he1) (dps (Nat.le_of_ble_eq_true rfl) hd0) rfl rfl (Nat.le_of_ble_eq_true rfl) ?_
  refine z_bipush (M := mX12_nextToken) (v := 61) dX12_nextToken_280 rfl ?_
  refine z_icmp_ne 310 dX12_nextToken_282 rfl (fun hc2 => ?_) (fun hc2 => ?_)
  · replace h := oT hc2 h
    cases h
    exact z_vret dX12_nextToken_310 rfl
  · replace h := oFn hc2 h
    refine z_aload_n dX12_nextToken_285 0 rfl ?_
    refine z_iload_n dX12_nextToken_286 1 rfl ?_
    refine z_bipush (M := mX12_nextToken) (v := 60) dX12_nextToken_287 rfl ?_
    refine z_icmp_ne 296 dX12_nextToken_289 rfl (fun hc3 => ?_) (fun hc3 => ?_)
    · replace h := oT hc3 h
      refine z_iconst (M := mX12_nextToken) (v := 5) dX12_nextToken_296 rfl ?_
      refine z_lv (lv2 := [(0, .ref 313)]) [0] rfl ?_
      exact t_Md_nextToken_297 hd0  (5 : Int32) ν _ h
    · replace h := oFn hc3 h
      refine z_iconst (M := mX12_nextToken) (v := 4) dX12_nextToken_292 rfl ?_
      refine z_goto 297 dX12_nextToken_293 rfl ?_
      refine z_lv (lv2 := [(0, .ref 313)]) [0] rfl ?_
      exact t_Md_nextToken_297 hd0  (4 : Int32) ν _ h
def Md_nextToken_247 (x1 : Int32) (s0 : Int32) (ν : Nm) : Option Nm :=
  (if x1 = (60 : Int32) then
    Md_nextToken_272 x1 (si (si ν 313 9 s0) 313 7 ((gi (si ν 313 9 s0) 313 7) + (1 : Int32)))
  else
    (if ¬ x1 = (62 : Int32) then
      some (si (si ν 313 9 s0) 313 7 ((gi (si ν 313 9 s0) 313 7) + (1 : Int32)))
    else
      Md_nextToken_272 x1 (si (si ν 313 9 s0) 313 7 ((gi (si ν 313 9 s0) 313 7) + (1 : Int32)))))
set_option maxRecDepth 100000 in
set_option maxHeartbeats 4000000 in
theorem t_Md_nextToken_247 {g : GG} {d : Nat} (hd0 : 2 ≤ d) : ∀ (x1 : Int32) (s0 : Int32) (ν : Nm) (r : Nm), Md_nextToken_247 x1 s0 ν = some r → Z g d (0, 0) mX12_nextToken 333 0 0 247 [(0, .ref 313), (1, .int x1)] [.int s0, .ref 313] (zem ν) (zF g (none, zem r)) := by
  intro x1 s0 ν r h
  unfold Md_nextToken_247 at h
  refine y_putI dX12_nextToken_247 zk_313 flRX12_134 ⟨rfl, rfl⟩ ?_
  refine z_aload_n dX12_nextToken_250 0 rfl ?_
  refine z_dup dX12_nextToken_251 rfl ?_
  refine y_getI dX12_nextToken_252 zk_313 flRX12_125 ?_
  refine z_iconst (M := mX12_nextToken) (v := 1) dX12_nextToken_255 rfl ?_
  refine z_iadd dX12_nextToken_256 ?_
  refine y_putI dX12_nextToken_257 zk_313 flRX12_125 ⟨rfl, rfl⟩ ?_
  refine z_iload_n dX12_nextToken_260 1 rfl ?_
  refine z_bipush (M := mX12_nextToken) (v := 60) dX12_nextToken_261 rfl ?_
  refine z_icmp_eq 272 dX12_nextToken_263 rfl (fun hc1 => ?_) (fun hc1 => ?_)
  · replace h := oT hc1 h
    exact t_Md_nextToken_272 hd0  x1 (si (si ν 313 9 s0) 313 7 ((gi (si ν 313 9 s0) 313 7) + (1 : Int32))) _ h
  · replace h := oF hc1 h
    refine z_iload_n dX12_nextToken_266 1 rfl ?_
    refine z_bipush (M := mX12_nextToken) (v := 62) dX12_nextToken_267 rfl ?_
    refine z_icmp_ne 310 dX12_nextToken_269 rfl (fun hc2 => ?_) (fun hc2 => ?_)
    · replace h := oT hc2 h
      cases h
      exact z_vret dX12_nextToken_310 rfl
    · replace h := oFn hc2 h
      exact t_Md_nextToken_272 hd0  x1 (si (si ν 313 9 s0) 313 7 ((gi (si ν 313 9 s0) 313 7) + (1 : Int32))) _ h
def Md_nextToken_0 : Nat → Nm → Option Nm
  | 0, _ => none
  | f + 1, ν =>
    (Md_byteAt ν (gi ν 313 7)).bind fun v1 =>
    (if v1 = (32 : Int32) then
      Md_nextToken_26 (Md_nextToken_0 f) ν
    else
      (Md_byteAt ν (gi ν 313 7)).bind fun v3 =>
      (if ¬ v3 = (10 : Int32) then
        (Md_byteAt (si ν 313 8 (gi ν 313 7)) (gi (si ν 313 8 (gi ν 313 7)) 313 7)).bind fun v5 =>
        (if 0 ≤ v5 then
          (Md_isFigure v5).bind fun v7 =>
          (if (b2i v7) = 0 then
            (Md_isLetterByte v5).bind fun v9 =>
            (if (b2i v9) = 0 then
              (Md_isSign v5).bind fun v11 =>
              (if (b2i v11) = 0 then
                Md_nextToken_247 v5 (3 : Int32) (si ν 313 8 (gi ν 313 7))
              else
                Md_nextToken_247 v5 v5 (si ν 313 8 (gi ν 313 7)))
            else
              Md_nextToken_168 FU (sl (si (si ν 313 8 (gi ν 313 7)) 313 9 (2 : Int32)) 313 11 (0 : Int64)))
          else
            Md_nextToken_85 FU (si (si (si ν 313 8 (gi ν 313 7)) 313 9 (1 : Int32)) 313 10 (0 : Int32)))
        else
          some (si (si ν 313 8 (gi ν 313 7)) 313 9 (0 : Int32)))
      else
        Md_nextToken_26 (Md_nextToken_0 f) ν))
set_option maxRecDepth 100000 in
set_option maxHeartbeats 4000000 in
theorem t_Md_nextToken_0 {g : GG} {d : Nat} (hd0 : 2 ≤ d) : ∀ (f : Nat), ∀ (ν : Nm) (r : Nm), Md_nextToken_0 f ν = some r → Z g d (0, 0) mX12_nextToken 333 0 0 0 [(0, .ref 313)] [] (zem ν) (zF g (none, zem r)) := by
  intro f
  induction f with
  | zero =>
    intro ν r h
    cases h
  | succ f ih =>
    intro ν r h
    rw [Md_nextToken_0] at h
    refine z_aload_n dX12_nextToken_0 0 rfl ?_
    refine z_aload_n dX12_nextToken_1 0 rfl ?_
    refine y_getI dX12_nextToken_2 zk_313 flRX12_125 ?_
    obtain ⟨v1, he1, h⟩ := obind h
    refine y_Vi (M := mX12_nextToken) (Y := mX12_byteAt) (d2 := d - 1) (As := [.int (gi ν 313 7)]) (st := []) dX12_nextToken_5 mlRX12_128 cv_X12_byteAt zk_313 (ct_Md_byteAt (dle (Nat.le_of_ble_eq_true rfl) hd0) he1) (dps (Nat.le_of_ble_eq_true rfl) hd0) rfl rfl (Nat.le_of_ble_eq_true rfl) ?_
    refine z_bipush (M := mX12_nextToken) (v := 32) dX12_nextToken_8 rfl ?_
    refine z_icmp_eq 26 dX12_nextToken_10 rfl (fun hc2 => ?_) (fun hc2 => ?_)
    · replace h := oT hc2 h
      exact t_Md_nextToken_26 hd0 ih ν _ h
    · replace h := oF hc2 h
      refine z_aload_n dX12_nextToken_13 0 rfl ?_
      refine z_aload_n dX12_nextToken_14 0 rfl ?_
      refine y_getI dX12_nextToken_15 zk_313 flRX12_125 ?_
      obtain ⟨v3, he3, h⟩ := obind h
      refine y_Vi (M := mX12_nextToken) (Y := mX12_byteAt) (d2 := d - 1) (As := [.int (gi ν 313 7)]) (st := []) dX12_nextToken_18 mlRX12_128 cv_X12_byteAt zk_313 (ct_Md_byteAt (dle (Nat.le_of_ble_eq_true rfl) hd0) he3) (dps (Nat.le_of_ble_eq_true rfl) hd0) rfl rfl (Nat.le_of_ble_eq_true rfl) ?_
      refine z_bipush (M := mX12_nextToken) (v := 10) dX12_nextToken_21 rfl ?_
      refine z_icmp_ne 39 dX12_nextToken_23 rfl (fun hc4 => ?_) (fun hc4 => ?_)
      · replace h := oT hc4 h
        refine z_aload_n dX12_nextToken_39 0 rfl ?_
        refine z_aload_n dX12_nextToken_40 0 rfl ?_
        refine y_getI dX12_nextToken_41 zk_313 flRX12_125 ?_
        refine y_putI dX12_nextToken_44 zk_313 flRX12_131 ⟨rfl, rfl⟩ ?_
        refine z_aload_n dX12_nextToken_47 0 rfl ?_
        refine z_aload_n dX12_nextToken_48 0 rfl ?_
        refine y_getI dX12_nextToken_49 zk_313 flRX12_125 ?_
        obtain ⟨v5, he5, h⟩ := obind h
        refine y_Vi (M := mX12_nextToken) (Y := mX12_byteAt) (d2 := d - 1) (As := [.int (gi (si ν 313 8 (gi ν 313 7)) 313 7)]) (st := []) dX12_nextToken_52 mlRX12_128 cv_X12_byteAt zk_313 (ct_Md_byteAt (dle (Nat.le_of_ble_eq_true rfl) hd0) he5) (dps (Nat.le_of_ble_eq_true rfl) hd0) rfl rfl (Nat.le_of_ble_eq_true rfl) ?_
        refine z_istore_n (M := mX12_nextToken) (lv2 := [(1, .int v5), (0, .ref 313)]) dX12_nextToken_55 (Nat.le_of_ble_eq_true rfl) rfl ?_
        refine z_iload_n dX12_nextToken_56 0 rfl ?_
        refine z_if_ge 68 dX12_nextToken_57 rfl (fun hc6 => ?_) (fun hc6 => ?_)
        · replace h := oT hc6 h
          refine z_iload_n dX12_nextToken_68 0 rfl ?_
          obtain ⟨v7, he7, h⟩ := obind h
          refine y_Si (M := mX12_nextToken) (Y := mX12_isFigure) (d2 := d - 1) (As := [.int v5]) (st := []) dX12_nextToken_69 mlRX12_137 cv_X12_isFigure (ct_Md_isFigure (dle (Nat.le_of_ble_eq_true rfl) hd0) he7) (dps (Nat.le_of_ble_eq_true rfl) hd0) rfl rfl (Nat.le_of_ble_eq_true rfl) ?_
          refine z_if_eq 151 dX12_nextToken_72 rfl (fun hc8 => ?_) (fun hc8 => ?_)
          · replace h := oT hc8 h
            refine z_iload_n dX12_nextToken_151 0 rfl ?_
            obtain ⟨v9, he9, h⟩ := obind h
            refine y_Si (M := mX12_nextToken) (Y := mX12_isLetterByte) (d2 := d - 1) (As := [.int v5]) (st := []) dX12_nextToken_152 mlRX12_144 cv_X12_isLetterByte (ct_Md_isLetterByte (dle (Nat.le_of_ble_eq_true rfl) hd0) he9) (dps (Nat.le_of_ble_eq_true rfl) hd0) rfl rfl (Nat.le_of_ble_eq_true rfl) ?_
            refine z_if_eq 234 dX12_nextToken_155 rfl (fun hc10 => ?_) (fun hc10 => ?_)
            · replace h := oT hc10 h
              refine z_aload_n dX12_nextToken_234 1 rfl ?_
              refine z_iload_n dX12_nextToken_235 0 rfl ?_
              obtain ⟨v11, he11, h⟩ := obind h
              refine y_Si (M := mX12_nextToken) (Y := mX12_isSign) (d2 := d - 1) (As := [.int v5]) (st := [.ref 313]) dX12_nextToken_236 mlRX12_153 cv_X12_isSign (ct_Md_isSign (dle (Nat.le_of_ble_eq_true rfl) hd0) he11) (dps (Nat.le_of_ble_eq_true rfl) hd0) rfl rfl (Nat.le_of_ble_eq_true rfl) ?_
              refine z_if_eq 246 dX12_nextToken_239 rfl (fun hc12 => ?_) (fun hc12 => ?_)
              · replace h := oT hc12 h
                refine z_iconst (M := mX12_nextToken) (v := 3) dX12_nextToken_246 rfl ?_
                refine z_lv (lv2 := [(0, .ref 313), (1, .int v5)]) [1, 0] rfl ?_
                exact t_Md_nextToken_247 hd0  v5 (3 : Int32) (si ν 313 8 (gi ν 313 7)) _ h
              · replace h := oF hc12 h
                refine z_iload_n dX12_nextToken_242 0 rfl ?_
                refine z_goto 247 dX12_nextToken_243 rfl ?_
                refine z_lv (lv2 := [(0, .ref 313), (1, .int v5)]) [1, 0] rfl ?_
                exact t_Md_nextToken_247 hd0  v5 v5 (si ν 313 8 (gi ν 313 7)) _ h
            · replace h := oF hc10 h
              refine z_aload_n dX12_nextToken_158 1 rfl ?_
              refine z_iconst (M := mX12_nextToken) (v := 2) dX12_nextToken_159 rfl ?_
              refine y_putI dX12_nextToken_160 zk_313 flRX12_134 ⟨rfl, rfl⟩ ?_
              refine z_aload_n dX12_nextToken_163 1 rfl ?_
              refine z_lconst (M := mX12_nextToken) (v := 0) dX12_nextToken_164 rfl ?_
              refine y_putL dX12_nextToken_165 zk_313 flRX12_147 ⟨rfl, rfl⟩ ?_
              refine z_lv (lv2 := [(0, .ref 313)]) [1] rfl ?_
              exact t_Md_nextToken_168 hd0 FU (sl (si (si ν 313 8 (gi ν 313 7)) 313 9 (2 : Int32)) 313 11 (0 : Int64)) _ h
          · replace h := oF hc8 h
            refine z_aload_n dX12_nextToken_75 1 rfl ?_
            refine z_iconst (M := mX12_nextToken) (v := 1) dX12_nextToken_76 rfl ?_
            refine y_putI dX12_nextToken_77 zk_313 flRX12_134 ⟨rfl, rfl⟩ ?_
            refine z_aload_n dX12_nextToken_80 1 rfl ?_
            refine z_iconst (M := mX12_nextToken) (v := 0) dX12_nextToken_81 rfl ?_
            refine y_putI dX12_nextToken_82 zk_313 flRX12_140 ⟨rfl, rfl⟩ ?_
            refine z_lv (lv2 := [(0, .ref 313)]) [1] rfl ?_
            exact t_Md_nextToken_85 hd0 FU (si (si (si ν 313 8 (gi ν 313 7)) 313 9 (1 : Int32)) 313 10 (0 : Int32)) _ h
        · replace h := oF hc6 h
          refine z_aload_n dX12_nextToken_60 1 rfl ?_
          refine z_iconst (M := mX12_nextToken) (v := 0) dX12_nextToken_61 rfl ?_
          refine y_putI dX12_nextToken_62 zk_313 flRX12_134 ⟨rfl, rfl⟩ ?_
          refine z_goto 310 dX12_nextToken_65 rfl ?_
          cases h
          exact z_vret dX12_nextToken_310 rfl
      · replace h := oFn hc4 h
        exact t_Md_nextToken_26 hd0 ih ν _ h
def Md_nextToken (ν : Nm) : Option Nm := Md_nextToken_0 FU ν
theorem ct_Md_nextToken {g : GG} {d : Nat} {ν : Nm} {r : Nm} (hd0 : 2 ≤ d)  (h : Md_nextToken ν = some r) : Ct g d mX12_nextToken [.ref 313] (zem ν) (none, zem r) := y_entry in_X12_nextToken (Nat.le_of_ble_eq_true rfl) rfl (t_Md_nextToken_0 hd0 FU ν r h)
-- FuseMinutesModel.figure(III)I
theorem dX12_figure_0 : decode cX12_figure 0 = .ok (.aload_n 0, 1) := by decide +kernel
theorem dX12_figure_1 : decode cX12_figure 1 = .ok (.getfield 134, 3) := by decide +kernel
theorem dX12_figure_4 : decode cX12_figure 4 = .ok (.iconst 1, 1) := by decide +kernel
theorem dX12_figure_5 : decode cX12_figure 5 = .ok (.if_icmp .eq 5, 3) := by decide +kernel
theorem dX12_figure_8 : decode cX12_figure 8 = .ok (.iconst 1, 1) := by decide +kernel
theorem dX12_figure_9 : decode cX12_figure 9 = .ok (.ireturn, 1) := by decide +kernel
theorem dX12_figure_10 : decode cX12_figure 10 = .ok (.aload_n 0, 1) := by decide +kernel
theorem dX12_figure_11 : decode cX12_figure 11 = .ok (.getfield 140, 3) := by decide +kernel
theorem dX12_figure_14 : decode cX12_figure 14 = .ok (.iload_n 2, 1) := by decide +kernel
theorem dX12_figure_15 : decode cX12_figure 15 = .ok (.iload_n 3, 1) := by decide +kernel
theorem dX12_figure_16 : decode cX12_figure 16 = .ok (.invokestatic 88, 3) := by decide +kernel
theorem dX12_figure_19 : decode cX12_figure 19 = .ok (.ifCond .ne 5, 3) := by decide +kernel
theorem dX12_figure_22 : decode cX12_figure 22 = .ok (.iconst 2, 1) := by decide +kernel
theorem dX12_figure_23 : decode cX12_figure 23 = .ok (.ireturn, 1) := by decide +kernel
theorem dX12_figure_24 : decode cX12_figure 24 = .ok (.aload_n 0, 1) := by decide +kernel
theorem dX12_figure_25 : decode cX12_figure 25 = .ok (.getfield 16, 3) := by decide +kernel
theorem dX12_figure_28 : decode cX12_figure 28 = .ok (.iload_n 1, 1) := by decide +kernel
theorem dX12_figure_29 : decode cX12_figure 29 = .ok (.aload_n 0, 1) := by decide +kernel
theorem dX12_figure_30 : decode cX12_figure 30 = .ok (.getfield 140, 3) := by decide +kernel
theorem dX12_figure_33 : decode cX12_figure 33 = .ok (.iastore, 1) := by decide +kernel
theorem dX12_figure_34 : decode cX12_figure 34 = .ok (.aload_n 0, 1) := by decide +kernel
theorem dX12_figure_35 : decode cX12_figure 35 = .ok (.invokevirtual 198, 3) := by decide +kernel
theorem dX12_figure_38 : decode cX12_figure 38 = .ok (.iconst 0, 1) := by decide +kernel
theorem dX12_figure_39 : decode cX12_figure 39 = .ok (.ireturn, 1) := by decide +kernel
def Md_figure (x1 : Int32) (x2 : Int32) (x3 : Int32) (ν : Nm) : Option (Int32 × Nm) :=
  (if (gi ν 313 9) = (1 : Int32) then
    (Md_isIn (gi ν 313 10) x2 x3).bind fun v2 =>
    (if ¬ (b2i v2) = 0 then
      if inb x1 2724 then
      (Md_nextToken (si ν 316 x1.toNatClampNeg (gi ν 313 10))).bind fun v5 =>
      some ((0 : Int32), v5)
      else none
    else
      some ((2 : Int32), ν))
  else
    some ((1 : Int32), ν))
set_option maxRecDepth 100000 in
set_option maxHeartbeats 4000000 in
theorem t_Md_figure {g : GG} {d : Nat} (hd0 : 3 ≤ d) : ∀ (x1 : Int32) (x2 : Int32) (x3 : Int32) (ν : Nm) (r : (Int32 × Nm)), Md_figure x1 x2 x3 ν = some r → Z g d (0, 0) mX12_figure 333 0 0 0 [(0, .ref 313), (1, .int x1), (2, .int x2), (3, .int x3)] [] (zem ν) (zF g (some (.int r.1), zem r.2)) := by
  intro x1 x2 x3 ν r h
  unfold Md_figure at h
  refine z_aload_n dX12_figure_0 0 rfl ?_
  refine y_getI dX12_figure_1 zk_313 flRX12_134 ?_
  refine z_iconst (M := mX12_figure) (v := 1) dX12_figure_4 rfl ?_
  refine z_icmp_eq 10 dX12_figure_5 rfl (fun hc1 => ?_) (fun hc1 => ?_)
  · replace h := oT hc1 h
    refine z_aload_n dX12_figure_10 0 rfl ?_
    refine y_getI dX12_figure_11 zk_313 flRX12_140 ?_
    refine z_iload_n dX12_figure_14 2 rfl ?_
    refine z_iload_n dX12_figure_15 3 rfl ?_
    obtain ⟨v2, he2, h⟩ := obind h
    refine y_Si (M := mX12_figure) (Y := mX12_isIn) (d2 := d - 1) (As := [.int (gi ν 313 10), .int x2, .int x3]) (st := []) dX12_figure_16 mlRX12_88 cv_X12_isIn (ct_Md_isIn (dle (Nat.le_of_ble_eq_true rfl) hd0) he2) (dps (Nat.le_of_ble_eq_true rfl) hd0) rfl rfl (Nat.le_of_ble_eq_true rfl) ?_
    refine z_if_ne 24 dX12_figure_19 rfl (fun hc3 => ?_) (fun hc3 => ?_)
    · replace h := oT hc3 h
      refine z_aload_n dX12_figure_24 0 rfl ?_
      refine y_getR (M := mX12_figure) (r := 316) dX12_figure_25 zk_313 flRX12_16 fr_10_2.1 (fr_10_2.2 _) ?_
      refine z_iload_n dX12_figure_28 1 rfl ?_
      refine z_aload_n dX12_figure_29 0 rfl ?_
      refine y_getI dX12_figure_30 zk_313 flRX12_140 ?_
      obtain ⟨hi4, h⟩ := oif h
      refine y_iast (M := mX12_figure) (jj := x1.toNatClampNeg) dX12_figure_33 zk_316 hi4 rfl ?_
      refine z_aload_n dX12_figure_34 0 rfl ?_
      obtain ⟨v5, he5, h⟩ := obind h
      refine y_Vv (M := mX12_figure) (Y := mX12_nextToken) (d2 := d - 1) (As := []) (st := []) dX12_figure_35 mlRX12_198 cv_X12_nextToken zk_313 (ct_Md_nextToken (dle (Nat.le_of_ble_eq_true rfl) hd0) he5) (dps (Nat.le_of_ble_eq_true rfl) hd0) rfl rfl (Nat.le_of_ble_eq_true rfl) ?_
      refine z_iconst (M := mX12_figure) (v := 0) dX12_figure_38 rfl ?_
      cases h
      exact z_iret dX12_figure_39 rfl
    · replace h := oFn hc3 h
      refine z_iconst (M := mX12_figure) (v := 2) dX12_figure_22 rfl ?_
      cases h
      exact z_iret dX12_figure_23 rfl
  · replace h := oF hc1 h
    refine z_iconst (M := mX12_figure) (v := 1) dX12_figure_8 rfl ?_
    cases h
    exact z_iret dX12_figure_9 rfl
theorem ct_Md_figure {g : GG} {d : Nat} {x1 : Int32} {x2 : Int32} {x3 : Int32} {ν : Nm} {r : (Int32 × Nm)} (hd0 : 3 ≤ d)  (h : Md_figure x1 x2 x3 ν = some r) : Ct g d mX12_figure [.ref 313, .int x1, .int x2, .int x3] (zem ν) (some (.int r.1), zem r.2) := y_entry in_X12_figure (Nat.le_of_ble_eq_true rfl) rfl (t_Md_figure hd0 x1 x2 x3 ν r h)
-- FuseMinutesModel.isWord(J)Z
theorem dX12_isWord_0 : decode cX12_isWord 0 = .ok (.aload_n 0, 1) := by decide +kernel
theorem dX12_isWord_1 : decode cX12_isWord 1 = .ok (.getfield 134, 3) := by decide +kernel
theorem dX12_isWord_4 : decode cX12_isWord 4 = .ok (.iconst 2, 1) := by decide +kernel
theorem dX12_isWord_5 : decode cX12_isWord 5 = .ok (.if_icmp .ne 16, 3) := by decide +kernel
theorem dX12_isWord_8 : decode cX12_isWord 8 = .ok (.aload_n 0, 1) := by decide +kernel
theorem dX12_isWord_9 : decode cX12_isWord 9 = .ok (.getfield 147, 3) := by decide +kernel
theorem dX12_isWord_12 : decode cX12_isWord 12 = .ok (.lload_n 1, 1) := by decide +kernel
theorem dX12_isWord_13 : decode cX12_isWord 13 = .ok (.lcmp, 1) := by decide +kernel
theorem dX12_isWord_14 : decode cX12_isWord 14 = .ok (.ifCond .ne 7, 3) := by decide +kernel
theorem dX12_isWord_17 : decode cX12_isWord 17 = .ok (.iconst 1, 1) := by decide +kernel
theorem dX12_isWord_18 : decode cX12_isWord 18 = .ok (.goto 4, 3) := by decide +kernel
theorem dX12_isWord_21 : decode cX12_isWord 21 = .ok (.iconst 0, 1) := by decide +kernel
theorem dX12_isWord_22 : decode cX12_isWord 22 = .ok (.ireturn, 1) := by decide +kernel
def Md_isWord (ν : Nm) (x1 : Int64) : Option Bool :=
  (if ¬ (gi ν 313 9) = (2 : Int32) then
    some false
  else
    (if ¬ (lg_cmp (gl ν 313 11) x1) = 0 then
      some false
    else
      some true))
set_option maxRecDepth 100000 in
set_option maxHeartbeats 4000000 in
theorem t_Md_isWord {g : GG} {d : Nat} {ν : Nm} (hd0 : 1 ≤ d) : ∀ (x1 : Int64) (r : Bool), Md_isWord ν x1 = some r → Z g d (0, 0) mX12_isWord 333 0 0 0 [(0, .ref 313), (1, .long x1)] [] (zem ν) (zF g (some (.int (b2i r)), zem ν)) := by
  intro x1 r h
  unfold Md_isWord at h
  refine z_aload_n dX12_isWord_0 0 rfl ?_
  refine y_getI dX12_isWord_1 zk_313 flRX12_134 ?_
  refine z_iconst (M := mX12_isWord) (v := 2) dX12_isWord_4 rfl ?_
  refine z_icmp_ne 21 dX12_isWord_5 rfl (fun hc1 => ?_) (fun hc1 => ?_)
  · replace h := oT hc1 h
    refine z_iconst (M := mX12_isWord) (v := 0) dX12_isWord_21 rfl ?_
    cases h
    exact z_zret dX12_isWord_22 rfl rfl
  · replace h := oFn hc1 h
    refine z_aload_n dX12_isWord_8 0 rfl ?_
    refine y_getL dX12_isWord_9 zk_313 flRX12_147 ?_
    refine z_lload_n dX12_isWord_12 1 rfl ?_
    refine z_lcmp dX12_isWord_13 ?_
    refine z_if_ne 21 dX12_isWord_14 rfl (fun hc2 => ?_) (fun hc2 => ?_)
    · replace h := oT hc2 h
      refine z_iconst (M := mX12_isWord) (v := 0) dX12_isWord_21 rfl ?_
      cases h
      exact z_zret dX12_isWord_22 rfl rfl
    · replace h := oFn hc2 h
      refine z_iconst (M := mX12_isWord) (v := 1) dX12_isWord_17 rfl ?_
      refine z_goto 22 dX12_isWord_18 rfl ?_
      cases h
      exact z_zret dX12_isWord_22 rfl rfl
theorem ct_Md_isWord {g : GG} {d : Nat} {x1 : Int64} {ν : Nm} {r : Bool} (hd0 : 1 ≤ d)  (h : Md_isWord ν x1 = some r) : Ct g d mX12_isWord [.ref 313, .long x1] (zem ν) (some (.int (b2i r)), zem ν) := y_entry in_X12_isWord (Nat.le_of_ble_eq_true rfl) rfl (t_Md_isWord hd0 x1 r h)
-- FuseMinutesModel.w2(II)J
theorem dX12_w2_0 : decode cX12_w2 0 = .ok (.iload_n 0, 1) := by decide +kernel
theorem dX12_w2_1 : decode cX12_w2 1 = .ok (.i2l, 1) := by decide +kernel
theorem dX12_w2_2 : decode cX12_w2 2 = .ok (.bipush 8, 2) := by decide +kernel
theorem dX12_w2_4 : decode cX12_w2 4 = .ok (.lshl, 1) := by decide +kernel
theorem dX12_w2_5 : decode cX12_w2 5 = .ok (.iload_n 1, 1) := by decide +kernel
theorem dX12_w2_6 : decode cX12_w2 6 = .ok (.i2l, 1) := by decide +kernel
theorem dX12_w2_7 : decode cX12_w2 7 = .ok (.lor, 1) := by decide +kernel
theorem dX12_w2_8 : decode cX12_w2 8 = .ok (.lreturn, 1) := by decide +kernel
def Md_w2 (x0 : Int32) (x1 : Int32) : Option Int64 :=
  some ((x0.toInt64 <<< ((8 : Int32).toInt64 &&& 63)) ||| x1.toInt64)
set_option maxRecDepth 100000 in
set_option maxHeartbeats 4000000 in
theorem t_Md_w2 {g : GG} {d : Nat} {μ : Mm} (hd0 : 1 ≤ d) : ∀ (x0 : Int32) (x1 : Int32) (r : Int64), Md_w2 x0 x1 = some r → Z g d (0, 0) mX12_w2 333 0 0 0 [(0, .int x0), (1, .int x1)] [] μ (zF g (some (.long r), μ)) := by
  intro x0 x1 r h
  unfold Md_w2 at h
  refine z_iload_n dX12_w2_0 0 rfl ?_
  refine z_i2l dX12_w2_1 ?_
  refine z_bipush (M := mX12_w2) (v := 8) dX12_w2_2 rfl ?_
  refine z_lshl dX12_w2_4 ?_
  refine z_iload_n dX12_w2_5 1 rfl ?_
  refine z_i2l dX12_w2_6 ?_
  refine z_lor dX12_w2_7 ?_
  cases h
  exact z_lret dX12_w2_8 rfl
theorem ct_Md_w2 {g : GG} {d : Nat} {x0 : Int32} {x1 : Int32} {μ : Mm} {r : Int64} (hd0 : 1 ≤ d)  (h : Md_w2 x0 x1 = some r) : Ct g d mX12_w2 [.int x0, .int x1] μ (some (.long r), μ) := y_entry in_X12_w2 (Nat.le_of_ble_eq_true rfl) rfl (t_Md_w2 hd0 x0 x1 r h)
-- FuseMinutesModel.w3(III)J
theorem dX12_w3_0 : decode cX12_w3 0 = .ok (.iload_n 0, 1) := by decide +kernel
theorem dX12_w3_1 : decode cX12_w3 1 = .ok (.iload_n 1, 1) := by decide +kernel
theorem dX12_w3_2 : decode cX12_w3 2 = .ok (.invokestatic 156, 3) := by decide +kernel
theorem dX12_w3_5 : decode cX12_w3 5 = .ok (.bipush 8, 2) := by decide +kernel
theorem dX12_w3_7 : decode cX12_w3 7 = .ok (.lshl, 1) := by decide +kernel
theorem dX12_w3_8 : decode cX12_w3 8 = .ok (.iload_n 2, 1) := by decide +kernel
theorem dX12_w3_9 : decode cX12_w3 9 = .ok (.i2l, 1) := by decide +kernel
theorem dX12_w3_10 : decode cX12_w3 10 = .ok (.lor, 1) := by decide +kernel
theorem dX12_w3_11 : decode cX12_w3 11 = .ok (.lreturn, 1) := by decide +kernel
def Md_w3 (x0 : Int32) (x1 : Int32) (x2 : Int32) : Option Int64 :=
  (Md_w2 x0 x1).bind fun v1 =>
  some ((v1 <<< ((8 : Int32).toInt64 &&& 63)) ||| x2.toInt64)
set_option maxRecDepth 100000 in
set_option maxHeartbeats 4000000 in
theorem t_Md_w3 {g : GG} {d : Nat} {μ : Mm} (hd0 : 2 ≤ d) : ∀ (x0 : Int32) (x1 : Int32) (x2 : Int32) (r : Int64), Md_w3 x0 x1 x2 = some r → Z g d (0, 0) mX12_w3 333 0 0 0 [(0, .int x0), (1, .int x1), (2, .int x2)] [] μ (zF g (some (.long r), μ)) := by
  intro x0 x1 x2 r h
  unfold Md_w3 at h
  refine z_iload_n dX12_w3_0 0 rfl ?_
  refine z_iload_n dX12_w3_1 1 rfl ?_
  obtain ⟨v1, he1, h⟩ := obind h
  refine y_Sl (M := mX12_w3) (Y := mX12_w2) (d2 := d - 1) (As := [.int x0, .int x1]) (st := []) dX12_w3_2 mlRX12_156 cv_X12_w2 (ct_Md_w2 (dle (Nat.le_of_ble_eq_true rfl) hd0) he1) (dps (Nat.le_of_ble_eq_true rfl) hd0) rfl rfl (Nat.le_of_ble_eq_true rfl) ?_
  refine z_bipush (M := mX12_w3) (v := 8) dX12_w3_5 rfl ?_
  refine z_lshl dX12_w3_7 ?_
  refine z_iload_n dX12_w3_8 2 rfl ?_
  refine z_i2l dX12_w3_9 ?_
  refine z_lor dX12_w3_10 ?_
  cases h
  exact z_lret dX12_w3_11 rfl
theorem ct_Md_w3 {g : GG} {d : Nat} {x0 : Int32} {x1 : Int32} {x2 : Int32} {μ : Mm} {r : Int64} (hd0 : 2 ≤ d)  (h : Md_w3 x0 x1 x2 = some r) : Ct g d mX12_w3 [.int x0, .int x1, .int x2] μ (some (.long r), μ) := y_entry in_X12_w3 (Nat.le_of_ble_eq_true rfl) rfl (t_Md_w3 hd0 x0 x1 x2 r h)
-- FuseMinutesModel.w4(IIII)J
theorem dX12_w4_0 : decode cX12_w4 0 = .ok (.iload_n 0, 1) := by decide +kernel
theorem dX12_w4_1 : decode cX12_w4 1 = .ok (.iload_n 1, 1) := by decide +kernel
theorem dX12_w4_2 : decode cX12_w4 2 = .ok (.iload_n 2, 1) := by decide +kernel
theorem dX12_w4_3 : decode cX12_w4 3 = .ok (.invokestatic 160, 3) := by decide +kernel
theorem dX12_w4_6 : decode cX12_w4 6 = .ok (.bipush 8, 2) := by decide +kernel
theorem dX12_w4_8 : decode cX12_w4 8 = .ok (.lshl, 1) := by decide +kernel
theorem dX12_w4_9 : decode cX12_w4 9 = .ok (.iload_n 3, 1) := by decide +kernel
theorem dX12_w4_10 : decode cX12_w4 10 = .ok (.i2l, 1) := by decide +kernel
theorem dX12_w4_11 : decode cX12_w4 11 = .ok (.lor, 1) := by decide +kernel
theorem dX12_w4_12 : decode cX12_w4 12 = .ok (.lreturn, 1) := by decide +kernel
def Md_w4 (x0 : Int32) (x1 : Int32) (x2 : Int32) (x3 : Int32) : Option Int64 :=
  (Md_w3 x0 x1 x2).bind fun v1 =>
  some ((v1 <<< ((8 : Int32).toInt64 &&& 63)) ||| x3.toInt64)
set_option maxRecDepth 100000 in
set_option maxHeartbeats 4000000 in
theorem t_Md_w4 {g : GG} {d : Nat} {μ : Mm} (hd0 : 3 ≤ d) : ∀ (x0 : Int32) (x1 : Int32) (x2 : Int32) (x3 : Int32) (r : Int64), Md_w4 x0 x1 x2 x3 = some r → Z g d (0, 0) mX12_w4 333 0 0 0 [(0, .int x0), (1, .int x1), (2, .int x2), (3, .int x3)] [] μ (zF g (some (.long r), μ)) := by
  intro x0 x1 x2 x3 r h
  unfold Md_w4 at h
  refine z_iload_n dX12_w4_0 0 rfl ?_
  refine z_iload_n dX12_w4_1 1 rfl ?_
  refine z_iload_n dX12_w4_2 2 rfl ?_
  obtain ⟨v1, he1, h⟩ := obind h
  refine y_Sl (M := mX12_w4) (Y := mX12_w3) (d2 := d - 1) (As := [.int x0, .int x1, .int x2]) (st := []) dX12_w4_3 mlRX12_160 cv_X12_w3 (ct_Md_w3 (dle (Nat.le_of_ble_eq_true rfl) hd0) he1) (dps (Nat.le_of_ble_eq_true rfl) hd0) rfl rfl (Nat.le_of_ble_eq_true rfl) ?_
  refine z_bipush (M := mX12_w4) (v := 8) dX12_w4_6 rfl ?_
  refine z_lshl dX12_w4_8 ?_
  refine z_iload_n dX12_w4_9 3 rfl ?_
  refine z_i2l dX12_w4_10 ?_
  refine z_lor dX12_w4_11 ?_
  cases h
  exact z_lret dX12_w4_12 rfl
theorem ct_Md_w4 {g : GG} {d : Nat} {x0 : Int32} {x1 : Int32} {x2 : Int32} {x3 : Int32} {μ : Mm} {r : Int64} (hd0 : 3 ≤ d)  (h : Md_w4 x0 x1 x2 x3 = some r) : Ct g d mX12_w4 [.int x0, .int x1, .int x2, .int x3] μ (some (.long r), μ) := y_entry in_X12_w4 (Nat.le_of_ble_eq_true rfl) rfl (t_Md_w4 hd0 x0 x1 x2 x3 r h)
-- FuseMinutesModel.w5(IIIII)J
theorem dX12_w5_0 : decode cX12_w5 0 = .ok (.iload_n 0, 1) := by decide +kernel
theorem dX12_w5_1 : decode cX12_w5 1 = .ok (.iload_n 1, 1) := by decide +kernel
theorem dX12_w5_2 : decode cX12_w5 2 = .ok (.iload_n 2, 1) := by decide +kernel
theorem dX12_w5_3 : decode cX12_w5 3 = .ok (.iload_n 3, 1) := by decide +kernel
theorem dX12_w5_4 : decode cX12_w5 4 = .ok (.invokestatic 164, 3) := by decide +kernel
theorem dX12_w5_7 : decode cX12_w5 7 = .ok (.bipush 8, 2) := by decide +kernel
theorem dX12_w5_9 : decode cX12_w5 9 = .ok (.lshl, 1) := by decide +kernel
theorem dX12_w5_10 : decode cX12_w5 10 = .ok (.iload 4, 2) := by decide +kernel
theorem dX12_w5_12 : decode cX12_w5 12 = .ok (.i2l, 1) := by decide +kernel
theorem dX12_w5_13 : decode cX12_w5 13 = .ok (.lor, 1) := by decide +kernel
theorem dX12_w5_14 : decode cX12_w5 14 = .ok (.lreturn, 1) := by decide +kernel
def Md_w5 (x0 : Int32) (x1 : Int32) (x2 : Int32) (x3 : Int32) (x4 : Int32) : Option Int64 :=
  (Md_w4 x0 x1 x2 x3).bind fun v1 =>
  some ((v1 <<< ((8 : Int32).toInt64 &&& 63)) ||| x4.toInt64)
set_option maxRecDepth 100000 in
set_option maxHeartbeats 4000000 in
theorem t_Md_w5 {g : GG} {d : Nat} {μ : Mm} (hd0 : 4 ≤ d) : ∀ (x0 : Int32) (x1 : Int32) (x2 : Int32) (x3 : Int32) (x4 : Int32) (r : Int64), Md_w5 x0 x1 x2 x3 x4 = some r → Z g d (0, 0) mX12_w5 333 0 0 0 [(0, .int x0), (1, .int x1), (2, .int x2), (3, .int x3), (4, .int x4)] [] μ (zF g (some (.long r), μ)) := by
  intro x0 x1 x2 x3 x4 r h
  unfold Md_w5 at h
  refine z_iload_n dX12_w5_0 0 rfl ?_
  refine z_iload_n dX12_w5_1 1 rfl ?_
  refine z_iload_n dX12_w5_2 2 rfl ?_
  refine z_iload_n dX12_w5_3 3 rfl ?_
  obtain ⟨v1, he1, h⟩ := obind h
  refine y_Sl (M := mX12_w5) (Y := mX12_w4) (d2 := d - 1) (As := [.int x0, .int x1, .int x2, .int x3]) (st := []) dX12_w5_4 mlRX12_164 cv_X12_w4 (ct_Md_w4 (dle (Nat.le_of_ble_eq_true rfl) hd0) he1) (dps (Nat.le_of_ble_eq_true rfl) hd0) rfl rfl (Nat.le_of_ble_eq_true rfl) ?_
  refine z_bipush (M := mX12_w5) (v := 8) dX12_w5_7 rfl ?_
  refine z_lshl dX12_w5_9 ?_
  refine z_iload dX12_w5_10 4 rfl ?_
  refine z_i2l dX12_w5_12 ?_
  refine z_lor dX12_w5_13 ?_
  cases h
  exact z_lret dX12_w5_14 rfl
theorem ct_Md_w5 {g : GG} {d : Nat} {x0 : Int32} {x1 : Int32} {x2 : Int32} {x3 : Int32} {x4 : Int32} {μ : Mm} {r : Int64} (hd0 : 4 ≤ d)  (h : Md_w5 x0 x1 x2 x3 x4 = some r) : Ct g d mX12_w5 [.int x0, .int x1, .int x2, .int x3, .int x4] μ (some (.long r), μ) := y_entry in_X12_w5 (Nat.le_of_ble_eq_true rfl) rfl (t_Md_w5 hd0 x0 x1 x2 x3 x4 r h)
-- FuseMinutesModel.cordClause(I)I
theorem dX12_cordClause_0 : decode cX12_cordClause 0 = .ok (.aload_n 0, 1) := by decide +kernel
theorem dX12_cordClause_1 : decode cX12_cordClause 1 = .ok (.iload_n 1, 1) := by decide +kernel
theorem dX12_cordClause_2 : decode cX12_cordClause 2 = .ok (.iconst 1, 1) := by decide +kernel
theorem dX12_cordClause_3 : decode cX12_cordClause 3 = .ok (.iadd, 1) := by decide +kernel
theorem dX12_cordClause_4 : decode cX12_cordClause 4 = .ok (.iconst 1, 1) := by decide +kernel
theorem dX12_cordClause_5 : decode cX12_cordClause 5 = .ok (.bipush 60, 2) := by decide +kernel
theorem dX12_cordClause_7 : decode cX12_cordClause 7 = .ok (.invokevirtual 245, 3) := by decide +kernel
theorem dX12_cordClause_10 : decode cX12_cordClause 10 = .ok (.istore_n 2, 1) := by decide +kernel
theorem dX12_cordClause_11 : decode cX12_cordClause 11 = .ok (.iload_n 2, 1) := by decide +kernel
theorem dX12_cordClause_12 : decode cX12_cordClause 12 = .ok (.ifCond .eq 5, 3) := by decide +kernel
theorem dX12_cordClause_15 : decode cX12_cordClause 15 = .ok (.iload_n 2, 1) := by decide +kernel
theorem dX12_cordClause_16 : decode cX12_cordClause 16 = .ok (.ireturn, 1) := by decide +kernel
theorem dX12_cordClause_17 : decode cX12_cordClause 17 = .ok (.aload_n 0, 1) := by decide +kernel
theorem dX12_cordClause_18 : decode cX12_cordClause 18 = .ok (.bipush 112, 2) := by decide +kernel
theorem dX12_cordClause_20 : decode cX12_cordClause 20 = .ok (.bipush 114, 2) := by decide +kernel
theorem dX12_cordClause_22 : decode cX12_cordClause 22 = .ok (.bipush 105, 2) := by decide +kernel
theorem dX12_cordClause_24 : decode cX12_cordClause 24 = .ok (.bipush 99, 2) := by decide +kernel
theorem dX12_cordClause_26 : decode cX12_cordClause 26 = .ok (.bipush 101, 2) := by decide +kernel
theorem dX12_cordClause_28 : decode cX12_cordClause 28 = .ok (.invokestatic 168, 3) := by decide +kernel
theorem dX12_cordClause_31 : decode cX12_cordClause 31 = .ok (.invokevirtual 216, 3) := by decide +kernel
theorem dX12_cordClause_34 : decode cX12_cordClause 34 = .ok (.ifCond .ne 5, 3) := by decide +kernel
theorem dX12_cordClause_37 : decode cX12_cordClause 37 = .ok (.iconst 1, 1) := by decide +kernel
theorem dX12_cordClause_38 : decode cX12_cordClause 38 = .ok (.ireturn, 1) := by decide +kernel
theorem dX12_cordClause_39 : decode cX12_cordClause 39 = .ok (.aload_n 0, 1) := by decide +kernel
theorem dX12_cordClause_40 : decode cX12_cordClause 40 = .ok (.invokevirtual 198, 3) := by decide +kernel
theorem dX12_cordClause_43 : decode cX12_cordClause 43 = .ok (.aload_n 0, 1) := by decide +kernel
theorem dX12_cordClause_44 : decode cX12_cordClause 44 = .ok (.iload_n 1, 1) := by decide +kernel
theorem dX12_cordClause_45 : decode cX12_cordClause 45 = .ok (.iconst 2, 1) := by decide +kernel
theorem dX12_cordClause_46 : decode cX12_cordClause 46 = .ok (.iadd, 1) := by decide +kernel
theorem dX12_cordClause_47 : decode cX12_cordClause 47 = .ok (.iconst 0, 1) := by decide +kernel
theorem dX12_cordClause_48 : decode cX12_cordClause 48 = .ok (.bipush 99, 2) := by decide +kernel
theorem dX12_cordClause_50 : decode cX12_cordClause 50 = .ok (.invokevirtual 245, 3) := by decide +kernel
theorem dX12_cordClause_53 : decode cX12_cordClause 53 = .ok (.ireturn, 1) := by decide +kernel
def Md_cordClause (x1 : Int32) (ν : Nm) : Option (Int32 × Nm) :=
  (Md_figure (x1 + (1 : Int32)) (1 : Int32) (60 : Int32) ν).bind fun v1 =>
  (if v1.1 = 0 then
    (Md_w5 (112 : Int32) (114 : Int32) (105 : Int32) (99 : Int32) (101 : Int32)).bind fun v3 =>
    (Md_isWord v1.2 v3).bind fun v4 =>
    (if ¬ (b2i v4) = 0 then
      (Md_nextToken v1.2).bind fun v6 =>
      (Md_figure (x1 + (2 : Int32)) (0 : Int32) (99 : Int32) v6).bind fun v7 =>
      some (v7.1, v7.2)
    else
      some ((1 : Int32), v1.2))
  else
    some (v1.1, v1.2))
set_option maxRecDepth 100000 in
set_option maxHeartbeats 4000000 in
theorem t_Md_cordClause {g : GG} {d : Nat} (hd0 : 5 ≤ d) : ∀ (x1 : Int32) (ν : Nm) (r : (Int32 × Nm)), Md_cordClause x1 ν = some r → Z g d (0, 0) mX12_cordClause 333 0 0 0 [(0, .ref 313), (1, .int x1)] [] (zem ν) (zF g (some (.int r.1), zem r.2)) := by
  intro x1 ν r h
  unfold Md_cordClause at h
  refine z_aload_n dX12_cordClause_0 0 rfl ?_
  refine z_iload_n dX12_cordClause_1 1 rfl ?_
  refine z_iconst (M := mX12_cordClause) (v := 1) dX12_cordClause_2 rfl ?_
  refine z_iadd dX12_cordClause_3 ?_
  refine z_iconst (M := mX12_cordClause) (v := 1) dX12_cordClause_4 rfl ?_
  refine z_bipush (M := mX12_cordClause) (v := 60) dX12_cordClause_5 rfl ?_
  obtain ⟨v1, he1, h⟩ := obind h
  refine y_Vi (M := mX12_cordClause) (Y := mX12_figure) (d2 := d - 1) (As := [.int (x1 + (1 : Int32)), .int (1 : Int32), .int (60 : Int32)]) (st := []) dX12_cordClause_7 mlRX12_245 cv_X12_figure zk_313 (ct_Md_figure (dle (Nat.le_of_ble_eq_true rfl) hd0) he1) (dps (Nat.le_of_ble_eq_true rfl) hd0) rfl rfl (Nat.le_of_ble_eq_true rfl) ?_
  refine z_istore_n (M := mX12_cordClause) (lv2 := [(2, .int v1.1), (0, .ref 313), (1, .int x1)]) dX12_cordClause_10 (Nat.le_of_ble_eq_true rfl) rfl ?_
  refine z_iload_n dX12_cordClause_11 0 rfl ?_
  refine z_if_eq 17 dX12_cordClause_12 rfl (fun hc2 => ?_) (fun hc2 => ?_)
  · replace h := oT hc2 h
    refine z_aload_n dX12_cordClause_17 1 rfl ?_
    refine z_bipush (M := mX12_cordClause) (v := 112) dX12_cordClause_18 rfl ?_
    refine z_bipush (M := mX12_cordClause) (v := 114) dX12_cordClause_20 rfl ?_
    refine z_bipush (M := mX12_cordClause) (v := 105) dX12_cordClause_22 rfl ?_
    refine z_bipush (M := mX12_cordClause) (v := 99) dX12_cordClause_24 rfl ?_
    refine z_bipush (M := mX12_cordClause) (v := 101) dX12_cordClause_26 rfl ?_
    obtain ⟨v3, he3, h⟩ := obind h
    refine y_Sl (M := mX12_cordClause) (Y := mX12_w5) (d2 := d - 1) (As := [.int (112 : Int32), .int (114 : Int32), .int (105 : Int32), .int (99 : Int32), .int (101 : Int32)]) (st := [.ref 313]) dX12_cordClause_28 mlRX12_168 cv_X12_w5 (ct_Md_w5 (dle (Nat.le_of_ble_eq_true rfl) hd0) he3) (dps (Nat.le_of_ble_eq_true rfl) hd0) rfl rfl (Nat.le_of_ble_eq_true rfl) ?_
    obtain ⟨v4, he4, h⟩ := obind h
    refine y_Vi (M := mX12_cordClause) (Y := mX12_isWord) (d2 := d - 1) (As := [.long v3]) (st := []) dX12_cordClause_31 mlRX12_216 cv_X12_isWord zk_313 (ct_Md_isWord (dle (Nat.le_of_ble_eq_true rfl) hd0) he4) (dps (Nat.le_of_ble_eq_true rfl) hd0) rfl rfl (Nat.le_of_ble_eq_true rfl) ?_
    refine z_if_ne 39 dX12_cordClause_34 rfl (fun hc5 => ?_) (fun hc5 => ?_)
    · replace h := oT hc5 h
      refine z_aload_n dX12_cordClause_39 1 rfl ?_
      obtain ⟨v6, he6, h⟩ := obind h
      refine y_Vv (M := mX12_cordClause) (Y := mX12_nextToken) (d2 := d - 1) (As := []) (st := []) dX12_cordClause_40 mlRX12_198 cv_X12_nextToken zk_313 (ct_Md_nextToken (dle (Nat.le_of_ble_eq_true rfl) hd0) he6) (dps (Nat.le_of_ble_eq_true rfl) hd0) rfl rfl (Nat.le_of_ble_eq_true rfl) ?_
      refine z_aload_n dX12_cordClause_43 1 rfl ?_
      refine z_iload_n dX12_cordClause_44 2 rfl ?_
      refine z_iconst (M := mX12_cordClause) (v := 2) dX12_cordClause_45 rfl ?_
      refine z_iadd dX12_cordClause_46 ?_
      refine z_iconst (M := mX12_cordClause) (v := 0) dX12_cordClause_47 rfl ?_
      refine z_bipush (M := mX12_cordClause) (v := 99) dX12_cordClause_48 rfl ?_
      obtain ⟨v7, he7, h⟩ := obind h
      refine y_Vi (M := mX12_cordClause) (Y := mX12_figure) (d2 := d - 1) (As := [.int (x1 + (2 : Int32)), .int (0 : Int32), .int (99 : Int32)]) (st := []) dX12_cordClause_50 mlRX12_245 cv_X12_figure zk_313 (ct_Md_figure (dle (Nat.le_of_ble_eq_true rfl) hd0) he7) (dps (Nat.le_of_ble_eq_true rfl) hd0) rfl rfl (Nat.le_of_ble_eq_true rfl) ?_
      cases h
      exact z_iret dX12_cordClause_53 rfl
    · replace h := oFn hc5 h
      refine z_iconst (M := mX12_cordClause) (v := 1) dX12_cordClause_37 rfl ?_
      cases h
      exact z_iret dX12_cordClause_38 rfl
  · replace h := oF hc2 h
    refine z_iload_n dX12_cordClause_15 0 rfl ?_
    cases h
    exact z_iret dX12_cordClause_16 rfl
theorem ct_Md_cordClause {g : GG} {d : Nat} {x1 : Int32} {ν : Nm} {r : (Int32 × Nm)} (hd0 : 5 ≤ d)  (h : Md_cordClause x1 ν = some r) : Ct g d mX12_cordClause [.ref 313, .int x1] (zem ν) (some (.int r.1), zem r.2) := y_entry in_X12_cordClause (Nat.le_of_ble_eq_true rfl) rfl (t_Md_cordClause hd0 x1 ν r h)
-- FuseMinutesModel.emit(II)V
theorem dX12_emit_0 : decode cX12_emit 0 = .ok (.aload_n 0, 1) := by decide +kernel
theorem dX12_emit_1 : decode cX12_emit 1 = .ok (.getfield 16, 3) := by decide +kernel
theorem dX12_emit_4 : decode cX12_emit 4 = .ok (.aload_n 0, 1) := by decide +kernel
theorem dX12_emit_5 : decode cX12_emit 5 = .ok (.getfield 172, 3) := by decide +kernel
theorem dX12_emit_8 : decode cX12_emit 8 = .ok (.bipush 73, 2) := by decide +kernel
theorem dX12_emit_10 : decode cX12_emit 10 = .ok (.iadd, 1) := by decide +kernel
theorem dX12_emit_11 : decode cX12_emit 11 = .ok (.iconst 2, 1) := by decide +kernel
theorem dX12_emit_12 : decode cX12_emit 12 = .ok (.aload_n 0, 1) := by decide +kernel
theorem dX12_emit_13 : decode cX12_emit 13 = .ok (.getfield 175, 3) := by decide +kernel
theorem dX12_emit_16 : decode cX12_emit 16 = .ok (.imul, 1) := by decide +kernel
theorem dX12_emit_17 : decode cX12_emit 17 = .ok (.iadd, 1) := by decide +kernel
theorem dX12_emit_18 : decode cX12_emit 18 = .ok (.iload_n 1, 1) := by decide +kernel
theorem dX12_emit_19 : decode cX12_emit 19 = .ok (.iastore, 1) := by decide +kernel
theorem dX12_emit_20 : decode cX12_emit 20 = .ok (.aload_n 0, 1) := by decide +kernel
theorem dX12_emit_21 : decode cX12_emit 21 = .ok (.getfield 16, 3) := by decide +kernel
theorem dX12_emit_24 : decode cX12_emit 24 = .ok (.aload_n 0, 1) := by decide +kernel
theorem dX12_emit_25 : decode cX12_emit 25 = .ok (.getfield 172, 3) := by decide +kernel
theorem dX12_emit_28 : decode cX12_emit 28 = .ok (.bipush 73, 2) := by decide +kernel
theorem dX12_emit_30 : decode cX12_emit 30 = .ok (.iadd, 1) := by decide +kernel
theorem dX12_emit_31 : decode cX12_emit 31 = .ok (.iconst 2, 1) := by decide +kernel
theorem dX12_emit_32 : decode cX12_emit 32 = .ok (.aload_n 0, 1) := by decide +kernel
theorem dX12_emit_33 : decode cX12_emit 33 = .ok (.getfield 175, 3) := by decide +kernel
theorem dX12_emit_36 : decode cX12_emit 36 = .ok (.imul, 1) := by decide +kernel
theorem dX12_emit_37 : decode cX12_emit 37 = .ok (.iadd, 1) := by decide +kernel
theorem dX12_emit_38 : decode cX12_emit 38 = .ok (.iconst 1, 1) := by decide +kernel
theorem dX12_emit_39 : decode cX12_emit 39 = .ok (.iadd, 1) := by decide +kernel
theorem dX12_emit_40 : decode cX12_emit 40 = .ok (.iload_n 2, 1) := by decide +kernel
theorem dX12_emit_41 : decode cX12_emit 41 = .ok (.iastore, 1) := by decide +kernel
theorem dX12_emit_42 : decode cX12_emit 42 = .ok (.aload_n 0, 1) := by decide +kernel
theorem dX12_emit_43 : decode cX12_emit 43 = .ok (.dup, 1) := by decide +kernel
theorem dX12_emit_44 : decode cX12_emit 44 = .ok (.getfield 175, 3) := by decide +kernel
theorem dX12_emit_47 : decode cX12_emit 47 = .ok (.iconst 1, 1) := by decide +kernel
theorem dX12_emit_48 : decode cX12_emit 48 = .ok (.iadd, 1) := by decide +kernel
theorem dX12_emit_49 : decode cX12_emit 49 = .ok (.putfield 175, 3) := by decide +kernel
theorem dX12_emit_52 : decode cX12_emit 52 = .ok (.return_, 1) := by decide +kernel
def Md_emit_42 (ν : Nm) : Option Nm :=
  some (si ν 313 13 ((gi ν 313 13) + (1 : Int32)))
set_option maxRecDepth 100000 in
set_option maxHeartbeats 4000000 in
theorem t_Md_emit_42 {g : GG} {d : Nat} (hd0 : 1 ≤ d) : ∀ (ν : Nm) (r : Nm), Md_emit_42 ν = some r → Z g d (0, 0) mX12_emit 333 0 0 42 [(0, .ref 313)] [] (zem ν) (zF g (none, zem r)) := by
  intro ν r h
  unfold Md_emit_42 at h
  refine z_aload_n dX12_emit_42 0 rfl ?_
  refine z_dup dX12_emit_43 rfl ?_
  refine y_getI dX12_emit_44 zk_313 flRX12_175 ?_
  refine z_iconst (M := mX12_emit) (v := 1) dX12_emit_47 rfl ?_
  refine z_iadd dX12_emit_48 ?_
  refine y_putI dX12_emit_49 zk_313 flRX12_175 ⟨rfl, rfl⟩ ?_
  cases h
  exact z_vret dX12_emit_52 rfl
def Md_emit (x1 : Int32) (x2 : Int32) (ν : Nm) : Option Nm :=
  if inb (((gi ν 313 12) + (73 : Int32)) + ((2 : Int32) * (gi ν 313 13))) 2724 then
  if inb ((((gi (si ν 316 (((gi ν 313 12) + (73 : Int32)) + ((2 : Int32) * (gi ν 313 13))).toNatClampNeg x1) 313 12) + (73 : Int32)) + ((2 : Int32) * (gi (si ν 316 (((gi ν 313 12) + (73 : Int32)) + ((2 : Int32) * (gi ν 313 13))).toNatClampNeg x1) 313 13))) + (1 : Int32)) 2724 then
  Md_emit_42 (si (si ν 316 (((gi ν 313 12) + (73 : Int32)) + ((2 : Int32) * (gi ν 313 13))).toNatClampNeg x1) 316 ((((gi (si ν 316 (((gi ν 313 12) + (73 : Int32)) + ((2 : Int32) * (gi ν 313 13))).toNatClampNeg x1) 313 12) + (73 : Int32)) + ((2 : Int32) * (gi (si ν 316 (((gi ν 313 12) + (73 : Int32)) + ((2 : Int32) * (gi ν 313 13))).toNatClampNeg x1) 313 13))) + (1 : Int32)).toNatClampNeg x2)
  else none
  else none
set_option maxRecDepth 100000 in
set_option maxHeartbeats 4000000 in
theorem t_Md_emit {g : GG} {d : Nat} (hd0 : 1 ≤ d) : ∀ (x1 : Int32) (x2 : Int32) (ν : Nm) (r : Nm), Md_emit x1 x2 ν = some r → Z g d (0, 0) mX12_emit 333 0 0 0 [(0, .ref 313), (1, .int x1), (2, .int x2)] [] (zem ν) (zF g (none, zem r)) := by
  intro x1 x2 ν r h
  unfold Md_emit at h
  refine z_aload_n dX12_emit_0 0 rfl ?_
  refine y_getR (M := mX12_emit) (r := 316) dX12_emit_1 zk_313 flRX12_16 fr_10_2.1 (fr_10_2.2 _) ?_
  refine z_aload_n dX12_emit_4 0 rfl ?_
  refine y_getI dX12_emit_5 zk_313 flRX12_172 ?_
  refine z_bipush (M := mX12_emit) (v := 73) dX12_emit_8 rfl ?_
  refine z_iadd dX12_emit_10 ?_
  refine z_iconst (M := mX12_emit) (v := 2) dX12_emit_11 rfl ?_
  refine z_aload_n dX12_emit_12 0 rfl ?_
  refine y_getI dX12_emit_13 zk_313 flRX12_175 ?_
  refine z_imul dX12_emit_16 ?_
  refine z_iadd dX12_emit_17 ?_
  refine z_iload_n dX12_emit_18 1 rfl ?_
  obtain ⟨hi1, h⟩ := oif h
  refine y_iast (M := mX12_emit) (jj := (((gi ν 313 12) + (73 : Int32)) + ((2 : Int32) * (gi ν 313 13))).toNatClampNeg) dX12_emit_19 zk_316 hi1 rfl ?_
  refine z_aload_n dX12_emit_20 0 rfl ?_
  refine y_getR (M := mX12_emit) (r := 316) dX12_emit_21 zk_313 flRX12_16 fr_10_2.1 (fr_10_2.2 _) ?_
  refine z_aload_n dX12_emit_24 0 rfl ?_
  refine y_getI dX12_emit_25 zk_313 flRX12_172 ?_
  refine z_bipush (M := mX12_emit) (v := 73) dX12_emit_28 rfl ?_
  refine z_iadd dX12_emit_30 ?_
  refine z_iconst (M := mX12_emit) (v := 2) dX12_emit_31 rfl ?_
  refine z_aload_n dX12_emit_32 0 rfl ?_
  refine y_getI dX12_emit_33 zk_313 flRX12_175 ?_
  refine z_imul dX12_emit_36 ?_
  refine z_iadd dX12_emit_37 ?_
  refine z_iconst (M := mX12_emit) (v := 1) dX12_emit_38 rfl ?_
  refine z_iadd dX12_emit_39 ?_
  refine z_iload_n dX12_emit_40 2 rfl ?_
  obtain ⟨hi2, h⟩ := oif h
  refine y_iast (M := mX12_emit) (jj := ((((gi (si ν 316 (((gi ν 313 12) + (73 : Int32)) + ((2 : Int32) * (gi ν 313 13))).toNatClampNeg x1) 313 12) + (73 : Int32)) + ((2 : Int32) * (gi (si ν 316 (((gi ν 313 12) + (73 : Int32)) + ((2 : Int32) * (gi ν 313 13))).toNatClampNeg x1) 313 13))) + (1 : Int32)).toNatClampNeg) dX12_emit_41 zk_316 hi2 rfl ?_
  refine z_lv (lv2 := [(0, .ref 313)]) [0] rfl ?_
  exact t_Md_emit_42 hd0  (si (si ν 316 (((gi ν 313 12) + (73 : Int32)) + ((2 : Int32) * (gi ν 313 13))).toNatClampNeg x1) 316 ((((gi (si ν 316 (((gi ν 313 12) + (73 : Int32)) + ((2 : Int32) * (gi ν 313 13))).toNatClampNeg x1) 313 12) + (73 : Int32)) + ((2 : Int32) * (gi (si ν 316 (((gi ν 313 12) + (73 : Int32)) + ((2 : Int32) * (gi ν 313 13))).toNatClampNeg x1) 313 13))) + (1 : Int32)).toNatClampNeg x2) _ h
theorem ct_Md_emit {g : GG} {d : Nat} {x1 : Int32} {x2 : Int32} {ν : Nm} {r : Nm} (hd0 : 1 ≤ d)  (h : Md_emit x1 x2 ν = some r) : Ct g d mX12_emit [.ref 313, .int x1, .int x2] (zem ν) (none, zem r) := y_entry in_X12_emit (Nat.le_of_ble_eq_true rfl) rfl (t_Md_emit hd0 x1 x2 ν r h)
-- FuseMinutesModel.openAt()I
theorem dX12_openAt_0 : decode cX12_openAt 0 = .ok (.aload_n 0, 1) := by decide +kernel
theorem dX12_openAt_1 : decode cX12_openAt 1 = .ok (.getfield 178, 3) := by decide +kernel
theorem dX12_openAt_4 : decode cX12_openAt 4 = .ok (.iconst 1, 1) := by decide +kernel
theorem dX12_openAt_5 : decode cX12_openAt 5 = .ok (.isub, 1) := by decide +kernel
theorem dX12_openAt_6 : decode cX12_openAt 6 = .ok (.istore_n 1, 1) := by decide +kernel
theorem dX12_openAt_7 : decode cX12_openAt 7 = .ok (.iload_n 1, 1) := by decide +kernel
theorem dX12_openAt_8 : decode cX12_openAt 8 = .ok (.ifCond .lt 20, 3) := by decide +kernel
theorem dX12_openAt_11 : decode cX12_openAt 11 = .ok (.aload_n 0, 1) := by decide +kernel
theorem dX12_openAt_12 : decode cX12_openAt 12 = .ok (.getfield 29, 3) := by decide +kernel
theorem dX12_openAt_15 : decode cX12_openAt 15 = .ok (.iload_n 1, 1) := by decide +kernel
theorem dX12_openAt_16 : decode cX12_openAt 16 = .ok (.iaload, 1) := by decide +kernel
theorem dX12_openAt_17 : decode cX12_openAt 17 = .ok (.bipush 40, 2) := by decide +kernel
theorem dX12_openAt_19 : decode cX12_openAt 19 = .ok (.if_icmp .ge 9, 3) := by decide +kernel
theorem dX12_openAt_22 : decode cX12_openAt 22 = .ok (.iinc 1 (-1), 3) := by decide +kernel
theorem dX12_openAt_25 : decode cX12_openAt 25 = .ok (.goto (-18), 3) := by decide +kernel
theorem dX12_openAt_28 : decode cX12_openAt 28 = .ok (.iload_n 1, 1) := by decide +kernel
theorem dX12_openAt_29 : decode cX12_openAt 29 = .ok (.ireturn, 1) := by decide +kernel
def Md_openAt_7 (ν : Nm) : Nat → Int32 → Option Int32
  | 0, _ => none
  | f + 1, x1 =>
    (if x1 < 0 then
      some x1
    else
      if inb x1 160 then
      (if (40 : Int32) ≤ (gi ν 318 x1.toNatClampNeg) then
        some x1
      else
        (Md_openAt_7 ν f) (x1 + (-1 : Int32)))
      else none)
set_option maxRecDepth 100000 in
set_option maxHeartbeats 4000000 in
theorem t_Md_openAt_7 {g : GG} {d : Nat} {ν : Nm} (hd0 : 1 ≤ d) : ∀ (f : Nat), ∀ (x1 : Int32) (r : Int32), Md_openAt_7 ν f x1 = some r → Z g d (0, 0) mX12_openAt 333 0 0 7 [(0, .ref 313), (1, .int x1)] [] (zem ν) (zF g (some (.int r), zem ν)) := by
  intro f
  induction f with
  | zero =>
    intro x1 r h
    cases h
  | succ f ih =>
    intro x1 r h
    rw [Md_openAt_7] at h
    refine z_iload_n dX12_openAt_7 1 rfl ?_
    refine z_if_lt 28 dX12_openAt_8 rfl (fun hc1 => ?_) (fun hc1 => ?_)
    · replace h := oT hc1 h
      refine z_iload_n dX12_openAt_28 1 rfl ?_
      cases h
      exact z_iret dX12_openAt_29 rfl
    · replace h := oF hc1 h
      refine z_aload_n dX12_openAt_11 0 rfl ?_
      refine y_getR (M := mX12_openAt) (r := 318) dX12_openAt_12 zk_313 flRX12_29 fr_10_15.1 (fr_10_15.2 _) ?_
      refine z_iload_n dX12_openAt_15 1 rfl ?_
      obtain ⟨hi2, h⟩ := oif h
      refine y_iald (M := mX12_openAt) (jj := x1.toNatClampNeg) dX12_openAt_16 zk_318 hi2 rfl ?_
      refine z_bipush (M := mX12_openAt) (v := 40) dX12_openAt_17 rfl ?_
      refine z_icmp_ge 28 dX12_openAt_19 rfl (fun hc3 => ?_) (fun hc3 => ?_)
      · replace h := oT hc3 h
        refine z_iload_n dX12_openAt_28 1 rfl ?_
        cases h
        exact z_iret dX12_openAt_29 rfl
      · replace h := oF hc3 h
        refine z_iinc (M := mX12_openAt) (v := (x1 + (-1 : Int32))) (lv2 := [(1, .int (x1 + (-1 : Int32))), (0, .ref 313)]) dX12_openAt_22 1 rfl rfl (Nat.le_of_ble_eq_true rfl) rfl ?_
        refine z_goto 7 dX12_openAt_25 rfl ?_
        refine z_lv (lv2 := [(0, .ref 313), (1, .int (x1 + (-1 : Int32)))]) [1, 0] rfl ?_
        exact ih (x1 + (-1 : Int32)) _ h
def Md_openAt (ν : Nm) : Option Int32 :=
  Md_openAt_7 ν FU ((gi ν 313 16) - (1 : Int32))
set_option maxRecDepth 100000 in
set_option maxHeartbeats 4000000 in
theorem t_Md_openAt {g : GG} {d : Nat} {ν : Nm} (hd0 : 1 ≤ d) : ∀ (r : Int32), Md_openAt ν = some r → Z g d (0, 0) mX12_openAt 333 0 0 0 [(0, .ref 313)] [] (zem ν) (zF g (some (.int r), zem ν)) := by
  intro r h
  unfold Md_openAt at h
  refine z_aload_n dX12_openAt_0 0 rfl ?_
  refine y_getI dX12_openAt_1 zk_313 flRX12_178 ?_
  refine z_iconst (M := mX12_openAt) (v := 1) dX12_openAt_4 rfl ?_
  refine z_isub dX12_openAt_5 ?_
  refine z_istore_n (M := mX12_openAt) (lv2 := [(1, .int ((gi ν 313 16) - (1 : Int32))), (0, .ref 313)]) dX12_openAt_6 (Nat.le_of_ble_eq_true rfl) rfl ?_
  refine z_lv (lv2 := [(0, .ref 313), (1, .int ((gi ν 313 16) - (1 : Int32)))]) [1, 0] rfl ?_
  exact t_Md_openAt_7 hd0 FU ((gi ν 313 16) - (1 : Int32)) _ h
theorem ct_Md_openAt {g : GG} {d : Nat} {ν : Nm} {r : Int32} (hd0 : 1 ≤ d)  (h : Md_openAt ν = some r) : Ct g d mX12_openAt [.ref 313] (zem ν) (some (.int r), zem ν) := y_entry in_X12_openAt (Nat.le_of_ble_eq_true rfl) rfl (t_Md_openAt hd0 r h)
-- FuseMinutesModel.openNow()I
theorem dX12_openNow_0 : decode cX12_openNow 0 = .ok (.aload_n 0, 1) := by decide +kernel
theorem dX12_openNow_1 : decode cX12_openNow 1 = .ok (.invokevirtual 191, 3) := by decide +kernel
theorem dX12_openNow_4 : decode cX12_openNow 4 = .ok (.ifCond .ge 7, 3) := by decide +kernel
theorem dX12_openNow_7 : decode cX12_openNow 7 = .ok (.iconst (-1), 1) := by decide +kernel
theorem dX12_openNow_8 : decode cX12_openNow 8 = .ok (.goto 12, 3) := by decide +kernel
theorem dX12_openNow_11 : decode cX12_openNow 11 = .ok (.aload_n 0, 1) := by decide +kernel
theorem dX12_openNow_12 : decode cX12_openNow 12 = .ok (.getfield 29, 3) := by decide +kernel
theorem dX12_openNow_15 : decode cX12_openNow 15 = .ok (.aload_n 0, 1) := by decide +kernel
theorem dX12_openNow_16 : decode cX12_openNow 16 = .ok (.invokevirtual 191, 3) := by decide +kernel
theorem dX12_openNow_19 : decode cX12_openNow 19 = .ok (.iaload, 1) := by decide +kernel
theorem dX12_openNow_20 : decode cX12_openNow 20 = .ok (.ireturn, 1) := by decide +kernel
def Md_openNow (ν : Nm) : Option Int32 :=
  (Md_openAt ν).bind fun v1 =>
  (if 0 ≤ v1 then
    (Md_openAt ν).bind fun v3 =>
    if inb v3 160 then
    some (gi ν 318 v3.toNatClampNeg)
    else none
  else
    some (-1 : Int32))
set_option maxRecDepth 100000 in
set_option maxHeartbeats 4000000 in
theorem t_Md_openNow {g : GG} {d : Nat} {ν : Nm} (hd0 : 2 ≤ d) : ∀ (r : Int32), Md_openNow ν = some r → Z g d (0, 0) mX12_openNow 333 0 0 0 [(0, .ref 313)] [] (zem ν) (zF g (some (.int r), zem ν)) := by
  intro r h
  unfold Md_openNow at h
  refine z_aload_n dX12_openNow_0 0 rfl ?_
  obtain ⟨v1, he1, h⟩ := obind h
  refine y_Vi (M := mX12_openNow) (Y := mX12_openAt) (d2 := d - 1) (As := []) (st := []) dX12_openNow_1 mlRX12_191 cv_X12_openAt zk_313 (ct_Md_openAt (dle (Nat.le_of_ble_eq_true rfl) hd0) he1) (dps (Nat.le_of_ble_eq_true rfl) hd0) rfl rfl (Nat.le_of_ble_eq_true rfl) ?_
  refine z_if_ge 11 dX12_openNow_4 rfl (fun hc2 => ?_) (fun hc2 => ?_)
  · replace h := oT hc2 h
    refine z_aload_n dX12_openNow_11 0 rfl ?_
    refine y_getR (M := mX12_openNow) (r := 318) dX12_openNow_12 zk_313 flRX12_29 fr_10_15.1 (fr_10_15.2 _) ?_
    refine z_aload_n dX12_openNow_15 0 rfl ?_
    obtain ⟨v3, he3, h⟩ := obind h
    refine y_Vi (M := mX12_openNow) (Y := mX12_openAt) (d2 := d - 1) (As := []) (st := [.ref 318]) dX12_openNow_16 mlRX12_191 cv_X12_openAt zk_313 (ct_Md_openAt (dle (Nat.le_of_ble_eq_true rfl) hd0) he3) (dps (Nat.le_of_ble_eq_true rfl) hd0) rfl rfl (Nat.le_of_ble_eq_true rfl) ?_
    obtain ⟨hi4, h⟩ := oif h
    refine y_iald (M := mX12_openNow) (jj := v3.toNatClampNeg) dX12_openNow_19 zk_318 hi4 rfl ?_
    cases h
    exact z_iret dX12_openNow_20 rfl
  · replace h := oF hc2 h
    refine z_iconst (M := mX12_openNow) (v := -1) dX12_openNow_7 rfl ?_
    refine z_goto 20 dX12_openNow_8 rfl ?_
    cases h
    exact z_iret dX12_openNow_20 rfl
theorem ct_Md_openNow {g : GG} {d : Nat} {ν : Nm} {r : Int32} (hd0 : 2 ≤ d)  (h : Md_openNow ν = some r) : Ct g d mX12_openNow [.ref 313] (zem ν) (some (.int r), zem ν) := y_entry in_X12_openNow (Nat.le_of_ble_eq_true rfl) rfl (t_Md_openNow hd0 r h)
-- FuseMinutesModel.rank(I)I
theorem dX12_rank_0 : decode cX12_rank 0 = .ok (.iload_n 0, 1) := by decide +kernel
theorem dX12_rank_1 : decode cX12_rank 1 = .ok (.bipush 40, 2) := by decide +kernel
theorem dX12_rank_3 : decode cX12_rank 3 = .ok (.if_icmp .lt 7, 3) := by decide +kernel
theorem dX12_rank_6 : decode cX12_rank 6 = .ok (.iconst 0, 1) := by decide +kernel
theorem dX12_rank_7 : decode cX12_rank 7 = .ok (.goto 66, 3) := by decide +kernel
theorem dX12_rank_10 : decode cX12_rank 10 = .ok (.iload_n 0, 1) := by decide +kernel
theorem dX12_rank_11 : decode cX12_rank 11 = .ok (.bipush 22, 2) := by decide +kernel
theorem dX12_rank_13 : decode cX12_rank 13 = .ok (.if_icmp .ne 7, 3) := by decide +kernel
theorem dX12_rank_16 : decode cX12_rank 16 = .ok (.iconst 1, 1) := by decide +kernel
theorem dX12_rank_17 : decode cX12_rank 17 = .ok (.goto 56, 3) := by decide +kernel
theorem dX12_rank_20 : decode cX12_rank 20 = .ok (.iload_n 0, 1) := by decide +kernel
theorem dX12_rank_21 : decode cX12_rank 21 = .ok (.bipush 21, 2) := by decide +kernel
theorem dX12_rank_23 : decode cX12_rank 23 = .ok (.if_icmp .ne 7, 3) := by decide +kernel
theorem dX12_rank_26 : decode cX12_rank 26 = .ok (.iconst 2, 1) := by decide +kernel
theorem dX12_rank_27 : decode cX12_rank 27 = .ok (.goto 46, 3) := by decide +kernel
theorem dX12_rank_30 : decode cX12_rank 30 = .ok (.iload_n 0, 1) := by decide +kernel
theorem dX12_rank_31 : decode cX12_rank 31 = .ok (.bipush 20, 2) := by decide +kernel
theorem dX12_rank_33 : decode cX12_rank 33 = .ok (.if_icmp .ne 7, 3) := by decide +kernel
theorem dX12_rank_36 : decode cX12_rank 36 = .ok (.iconst 3, 1) := by decide +kernel
theorem dX12_rank_37 : decode cX12_rank 37 = .ok (.goto 36, 3) := by decide +kernel
theorem dX12_rank_40 : decode cX12_rank 40 = .ok (.iload_n 0, 1) := by decide +kernel
theorem dX12_rank_41 : decode cX12_rank 41 = .ok (.bipush 10, 2) := by decide +kernel
theorem dX12_rank_43 : decode cX12_rank 43 = .ok (.if_icmp .lt 7, 3) := by decide +kernel
theorem dX12_rank_46 : decode cX12_rank 46 = .ok (.iconst 4, 1) := by decide +kernel
theorem dX12_rank_47 : decode cX12_rank 47 = .ok (.goto 26, 3) := by decide +kernel
theorem dX12_rank_50 : decode cX12_rank 50 = .ok (.iload_n 0, 1) := by decide +kernel
theorem dX12_rank_51 : decode cX12_rank 51 = .ok (.bipush 8, 2) := by decide +kernel
theorem dX12_rank_53 : decode cX12_rank 53 = .ok (.if_icmp .lt 8, 3) := by decide +kernel
theorem dX12_rank_56 : decode cX12_rank 56 = .ok (.bipush 6, 2) := by decide +kernel
theorem dX12_rank_58 : decode cX12_rank 58 = .ok (.goto 15, 3) := by decide +kernel
theorem dX12_rank_61 : decode cX12_rank 61 = .ok (.iload_n 0, 1) := by decide +kernel
theorem dX12_rank_62 : decode cX12_rank 62 = .ok (.bipush 6, 2) := by decide +kernel
theorem dX12_rank_64 : decode cX12_rank 64 = .ok (.if_icmp .lt 7, 3) := by decide +kernel
theorem dX12_rank_67 : decode cX12_rank 67 = .ok (.iconst 5, 1) := by decide +kernel
theorem dX12_rank_68 : decode cX12_rank 68 = .ok (.goto 5, 3) := by decide +kernel
theorem dX12_rank_71 : decode cX12_rank 71 = .ok (.bipush 7, 2) := by decide +kernel
theorem dX12_rank_73 : decode cX12_rank 73 = .ok (.ireturn, 1) := by decide +kernel
def Md_rank (x0 : Int32) : Option Int32 :=
  (if x0 < (40 : Int32) then
    (if ¬ x0 = (22 : Int32) then
      (if ¬ x0 = (21 : Int32) then
        (if ¬ x0 = (20 : Int32) then
          (if x0 < (10 : Int32) then
            (if x0 < (8 : Int32) then
              (if x0 < (6 : Int32) then
                some (7 : Int32)
              else
                some (5 : Int32))
            else
              some (6 : Int32))
          else
            some (4 : Int32))
        else
          some (3 : Int32))
      else
        some (2 : Int32))
    else
      some (1 : Int32))
  else
    some (0 : Int32))
set_option maxRecDepth 100000 in
set_option maxHeartbeats 4000000 in
theorem t_Md_rank {g : GG} {d : Nat} {μ : Mm} (hd0 : 1 ≤ d) : ∀ (x0 : Int32) (r : Int32), Md_rank x0 = some r → Z g d (0, 0) mX12_rank 333 0 0 0 [(0, .int x0)] [] μ (zF g (some (.int r), μ)) := by
  intro x0 r h
  unfold Md_rank at h
  refine z_iload_n dX12_rank_0 0 rfl ?_
  refine z_bipush (M := mX12_rank) (v := 40) dX12_rank_1 rfl ?_
  refine z_icmp_lt 10 dX12_rank_3 rfl (fun hc1 => ?_) (fun hc1 => ?_)
  · replace h := oT hc1 h
    refine z_iload_n dX12_rank_10 0 rfl ?_
    refine z_bipush (M := mX12_rank) (v := 22) dX12_rank_11 rfl ?_
    refine z_icmp_ne 20 dX12_rank_13 rfl (fun hc2 => ?_) (fun hc2 => ?_)
    · replace h := oT hc2 h
      refine z_iload_n dX12_rank_20 0 rfl ?_
      refine z_bipush (M := mX12_rank) (v := 21) dX12_rank_21 rfl ?_
      refine z_icmp_ne 30 dX12_rank_23 rfl (fun hc3 => ?_) (fun hc3 => ?_)
      · replace h := oT hc3 h
        refine z_iload_n dX12_rank_30 0 rfl ?_
        refine z_bipush (M := mX12_rank) (v := 20) dX12_rank_31 rfl ?_
        refine z_icmp_ne 40 dX12_rank_33 rfl (fun hc4 => ?_) (fun hc4 => ?_)
        · replace h := oT hc4 h
          refine z_iload_n dX12_rank_40 0 rfl ?_
          refine z_bipush (M := mX12_rank) (v := 10) dX12_rank_41 rfl ?_
          refine z_icmp_lt 50 dX12_rank_43 rfl (fun hc5 => ?_) (fun hc5 => ?_)
          · replace h := oT hc5 h
            refine z_iload_n dX12_rank_50 0 rfl ?_
            refine z_bipush (M := mX12_rank) (v := 8) dX12_rank_51 rfl ?_
            refine z_icmp_lt 61 dX12_rank_53 rfl (fun hc6 => ?_) (fun hc6 => ?_)
            · replace h := oT hc6 h
              refine z_iload_n dX12_rank_61 0 rfl ?_
              refine z_bipush (M := mX12_rank) (v := 6) dX12_rank_62 rfl ?_
              refine z_icmp_lt 71 dX12_rank_64 rfl (fun hc7 => ?_) (fun hc7 => ?_)
              · replace h := oT hc7 h
                refine z_bipush (M := mX12_rank) (v := 7) dX12_rank_71 rfl ?_
                cases h
                exact z_iret dX12_rank_73 rfl
              · replace h := oF hc7 h
                refine z_iconst (M := mX12_rank) (v := 5) dX12_rank_67 rfl ?_
                refine z_goto 73 dX12_rank_68 rfl ?_
                cases h
                exact z_iret dX12_rank_73 rfl
            · replace h := oF hc6 h
              refine z_bipush (M := mX12_rank) (v := 6) dX12_rank_56 rfl ?_
              refine z_goto 73 dX12_rank_58 rfl ?_
              cases h
              exact z_iret dX12_rank_73 rfl
          · replace h := oF hc5 h
            refine z_iconst (M := mX12_rank) (v := 4) dX12_rank_46 rfl ?_
            refine z_goto 73 dX12_rank_47 rfl ?_
            cases h
            exact z_iret dX12_rank_73 rfl
        · replace h := oFn hc4 h
          refine z_iconst (M := mX12_rank) (v := 3) dX12_rank_36 rfl ?_
          refine z_goto 73 dX12_rank_37 rfl ?_
          cases h
          exact z_iret dX12_rank_73 rfl
      · replace h := oFn hc3 h
        refine z_iconst (M := mX12_rank) (v := 2) dX12_rank_26 rfl ?_
        refine z_goto 73 dX12_rank_27 rfl ?_
        cases h
        exact z_iret dX12_rank_73 rfl
    · replace h := oFn hc2 h
      refine z_iconst (M := mX12_rank) (v := 1) dX12_rank_16 rfl ?_
      refine z_goto 73 dX12_rank_17 rfl ?_
      cases h
      exact z_iret dX12_rank_73 rfl
  · replace h := oF hc1 h
    refine z_iconst (M := mX12_rank) (v := 0) dX12_rank_6 rfl ?_
    refine z_goto 73 dX12_rank_7 rfl ?_
    cases h
    exact z_iret dX12_rank_73 rfl
theorem ct_Md_rank {g : GG} {d : Nat} {x0 : Int32} {μ : Mm} {r : Int32} (hd0 : 1 ≤ d)  (h : Md_rank x0 = some r) : Ct g d mX12_rank [.int x0] μ (some (.int r), μ) := y_entry in_X12_rank (Nat.le_of_ble_eq_true rfl) rfl (t_Md_rank hd0 x0 r h)
-- FuseMinutesModel.isAskAhead()Z
theorem dX12_isAskAhead_0 : decode cX12_isAskAhead 0 = .ok (.aload_n 0, 1) := by decide +kernel
theorem dX12_isAskAhead_1 : decode cX12_isAskAhead 1 = .ok (.invokevirtual 195, 3) := by decide +kernel
theorem dX12_isAskAhead_4 : decode cX12_isAskAhead 4 = .ok (.bipush 41, 2) := by decide +kernel
theorem dX12_isAskAhead_6 : decode cX12_isAskAhead 6 = .ok (.if_icmp .ne 45, 3) := by decide +kernel
theorem dX12_isAskAhead_9 : decode cX12_isAskAhead 9 = .ok (.aload_n 0, 1) := by decide +kernel
theorem dX12_isAskAhead_10 : decode cX12_isAskAhead 10 = .ok (.getfield 29, 3) := by decide +kernel
theorem dX12_isAskAhead_13 : decode cX12_isAskAhead 13 = .ok (.aload_n 0, 1) := by decide +kernel
theorem dX12_isAskAhead_14 : decode cX12_isAskAhead 14 = .ok (.getfield 178, 3) := by decide +kernel
theorem dX12_isAskAhead_17 : decode cX12_isAskAhead 17 = .ok (.iconst 1, 1) := by decide +kernel
theorem dX12_isAskAhead_18 : decode cX12_isAskAhead 18 = .ok (.isub, 1) := by decide +kernel
theorem dX12_isAskAhead_19 : decode cX12_isAskAhead 19 = .ok (.iaload, 1) := by decide +kernel
theorem dX12_isAskAhead_20 : decode cX12_isAskAhead 20 = .ok (.bipush 40, 2) := by decide +kernel
theorem dX12_isAskAhead_22 : decode cX12_isAskAhead 22 = .ok (.if_icmp .ge 25, 3) := by decide +kernel
theorem dX12_isAskAhead_25 : decode cX12_isAskAhead 25 = .ok (.aload_n 0, 1) := by decide +kernel
theorem dX12_isAskAhead_26 : decode cX12_isAskAhead 26 = .ok (.getfield 29, 3) := by decide +kernel
theorem dX12_isAskAhead_29 : decode cX12_isAskAhead 29 = .ok (.aload_n 0, 1) := by decide +kernel
theorem dX12_isAskAhead_30 : decode cX12_isAskAhead 30 = .ok (.getfield 178, 3) := by decide +kernel
theorem dX12_isAskAhead_33 : decode cX12_isAskAhead 33 = .ok (.iconst 1, 1) := by decide +kernel
theorem dX12_isAskAhead_34 : decode cX12_isAskAhead 34 = .ok (.isub, 1) := by decide +kernel
theorem dX12_isAskAhead_35 : decode cX12_isAskAhead 35 = .ok (.iaload, 1) := by decide +kernel
theorem dX12_isAskAhead_36 : decode cX12_isAskAhead 36 = .ok (.invokestatic 181, 3) := by decide +kernel
theorem dX12_isAskAhead_39 : decode cX12_isAskAhead 39 = .ok (.iconst 1, 1) := by decide +kernel
theorem dX12_isAskAhead_40 : decode cX12_isAskAhead 40 = .ok (.iconst 3, 1) := by decide +kernel
theorem dX12_isAskAhead_41 : decode cX12_isAskAhead 41 = .ok (.invokestatic 88, 3) := by decide +kernel
theorem dX12_isAskAhead_44 : decode cX12_isAskAhead 44 = .ok (.ifCond .eq 7, 3) := by decide +kernel
theorem dX12_isAskAhead_47 : decode cX12_isAskAhead 47 = .ok (.iconst 1, 1) := by decide +kernel
theorem dX12_isAskAhead_48 : decode cX12_isAskAhead 48 = .ok (.goto 4, 3) := by decide +kernel
theorem dX12_isAskAhead_51 : decode cX12_isAskAhead 51 = .ok (.iconst 0, 1) := by decide +kernel
theorem dX12_isAskAhead_52 : decode cX12_isAskAhead 52 = .ok (.ireturn, 1) := by decide +kernel
def Md_isAskAhead (ν : Nm) : Option Bool :=
  (Md_openNow ν).bind fun v1 =>
  (if ¬ v1 = (41 : Int32) then
    some false
  else
    if inb ((gi ν 313 16) - (1 : Int32)) 160 then
    (if (40 : Int32) ≤ (gi ν 318 ((gi ν 313 16) - (1 : Int32)).toNatClampNeg) then
      some true
    else
      if inb ((gi ν 313 16) - (1 : Int32)) 160 then
      (Md_rank (gi ν 318 ((gi ν 313 16) - (1 : Int32)).toNatClampNeg)).bind fun v6 =>
      (Md_isIn v6 (1 : Int32) (3 : Int32)).bind fun v7 =>
      (if (b2i v7) = 0 then
        some false
      else
        some true)
      else none)
    else none)
set_option maxRecDepth 100000 in
set_option maxHeartbeats 4000000 in
theorem t_Md_isAskAhead {g : GG} {d : Nat} {ν : Nm} (hd0 : 3 ≤ d) : ∀ (r : Bool), Md_isAskAhead ν = some r → Z g d (0, 0) mX12_isAskAhead 333 0 0 0 [(0, .ref 313)] [] (zem ν) (zF g (some (.int (b2i r)), zem ν)) := by
  intro r h
  unfold Md_isAskAhead at h
  refine z_aload_n dX12_isAskAhead_0 0 rfl ?_
  obtain ⟨v1, he1, h⟩ := obind h
  refine y_Vi (M := mX12_isAskAhead) (Y := mX12_openNow) (d2 := d - 1) (As := []) (st := []) dX12_isAskAhead_1 mlRX12_195 cv_X12_openNow zk_313 (ct_Md_openNow (dle (Nat.le_of_ble_eq_true rfl) hd0) he1) (dps (Nat.le_of_ble_eq_true rfl) hd0) rfl rfl (Nat.le_of_ble_eq_true rfl) ?_
  refine z_bipush (M := mX12_isAskAhead) (v := 41) dX12_isAskAhead_4 rfl ?_
  refine z_icmp_ne 51 dX12_isAskAhead_6 rfl (fun hc2 => ?_) (fun hc2 => ?_)
  · replace h := oT hc2 h
    refine z_iconst (M := mX12_isAskAhead) (v := 0) dX12_isAskAhead_51 rfl ?_
    cases h
    exact z_zret dX12_isAskAhead_52 rfl rfl
  · replace h := oFn hc2 h
    refine z_aload_n dX12_isAskAhead_9 0 rfl ?_
    refine y_getR (M := mX12_isAskAhead) (r := 318) dX12_isAskAhead_10 zk_313 flRX12_29 fr_10_15.1 (fr_10_15.2 _) ?_
    refine z_aload_n dX12_isAskAhead_13 0 rfl ?_
    refine y_getI dX12_isAskAhead_14 zk_313 flRX12_178 ?_
    refine z_iconst (M := mX12_isAskAhead) (v := 1) dX12_isAskAhead_17 rfl ?_
    refine z_isub dX12_isAskAhead_18 ?_
    obtain ⟨hi3, h⟩ := oif h
    refine y_iald (M := mX12_isAskAhead) (jj := ((gi ν 313 16) - (1 : Int32)).toNatClampNeg) dX12_isAskAhead_19 zk_318 hi3 rfl ?_
    refine z_bipush (M := mX12_isAskAhead) (v := 40) dX12_isAskAhead_20 rfl ?_
    refine z_icmp_ge 47 dX12_isAskAhead_22 rfl (fun hc4 => ?_) (fun hc4 => ?_)
    · replace h := oT hc4 h
      refine z_iconst (M := mX12_isAskAhead) (v := 1) dX12_isAskAhead_47 rfl ?_
      refine z_goto 52 dX12_isAskAhead_48 rfl ?_
      cases h
      exact z_zret dX12_isAskAhead_52 rfl rfl
    · replace h := oF hc4 h
      refine z_aload_n dX12_isAskAhead_25 0 rfl ?_
      refine y_getR (M := mX12_isAskAhead) (r := 318) dX12_isAskAhead_26 zk_313 flRX12_29 fr_10_15.1 (fr_10_15.2 _) ?_
      refine z_aload_n dX12_isAskAhead_29 0 rfl ?_
      refine y_getI dX12_isAskAhead_30 zk_313 flRX12_178 ?_
      refine z_iconst (M := mX12_isAskAhead) (v := 1) dX12_isAskAhead_33 rfl ?_
      refine z_isub dX12_isAskAhead_34 ?_
      obtain ⟨hi5, h⟩ := oif h
      refine y_iald (M := mX12_isAskAhead) (jj := ((gi ν 313 16) - (1 : Int32)).toNatClampNeg) dX12_isAskAhead_35 zk_318 hi5 rfl ?_
      obtain ⟨v6, he6, h⟩ := obind h
      refine y_Si (M := mX12_isAskAhead) (Y := mX12_rank) (d2 := d - 1) (As := [.int (gi ν 318 ((gi ν 313 16) - (1 : Int32)).toNatClampNeg)]) (st := []) dX12_isAskAhead_36 mlRX12_181 cv_X12_rank (ct_Md_rank (dle (Nat.le_of_ble_eq_true rfl) hd0) he6) (dps (Nat.le_of_ble_eq_true rfl) hd0) rfl rfl (Nat.le_of_ble_eq_true rfl) ?_
      refine z_iconst (M := mX12_isAskAhead) (v := 1) dX12_isAskAhead_39 rfl ?_
      refine z_iconst (M := mX12_isAskAhead) (v := 3) dX12_isAskAhead_40 rfl ?_
      obtain ⟨v7, he7, h⟩ := obind h
      refine y_Si (M := mX12_isAskAhead) (Y := mX12_isIn) (d2 := d - 1) (As := [.int v6, .int (1 : Int32), .int (3 : Int32)]) (st := []) dX12_isAskAhead_41 mlRX12_88 cv_X12_isIn (ct_Md_isIn (dle (Nat.le_of_ble_eq_true rfl) hd0) he7) (dps (Nat.le_of_ble_eq_true rfl) hd0) rfl rfl (Nat.le_of_ble_eq_true rfl) ?_
      refine z_if_eq 51 dX12_isAskAhead_44 rfl (fun hc8 => ?_) (fun hc8 => ?_)
      · replace h := oT hc8 h
        refine z_iconst (M := mX12_isAskAhead) (v := 0) dX12_isAskAhead_51 rfl ?_
        cases h
        exact z_zret dX12_isAskAhead_52 rfl rfl
      · replace h := oF hc8 h
        refine z_iconst (M := mX12_isAskAhead) (v := 1) dX12_isAskAhead_47 rfl ?_
        refine z_goto 52 dX12_isAskAhead_48 rfl ?_
        cases h
        exact z_zret dX12_isAskAhead_52 rfl rfl
theorem ct_Md_isAskAhead {g : GG} {d : Nat} {ν : Nm} {r : Bool} (hd0 : 3 ≤ d)  (h : Md_isAskAhead ν = some r) : Ct g d mX12_isAskAhead [.ref 313] (zem ν) (some (.int (b2i r)), zem ν) := y_entry in_X12_isAskAhead (Nat.le_of_ble_eq_true rfl) rfl (t_Md_isAskAhead hd0 r h)
-- FuseMinutesModel.nameOf()I
theorem dX12_nameOf_0 : decode cX12_nameOf 0 = .ok (.aload_n 0, 1) := by decide +kernel
theorem dX12_nameOf_1 : decode cX12_nameOf 1 = .ok (.getfield 134, 3) := by decide +kernel
theorem dX12_nameOf_4 : decode cX12_nameOf 4 = .ok (.iconst 2, 1) := by decide +kernel
theorem dX12_nameOf_5 : decode cX12_nameOf 5 = .ok (.if_icmp .eq 5, 3) := by decide +kernel
theorem dX12_nameOf_8 : decode cX12_nameOf 8 = .ok (.iconst (-1), 1) := by decide +kernel
theorem dX12_nameOf_9 : decode cX12_nameOf 9 = .ok (.ireturn, 1) := by decide +kernel
theorem dX12_nameOf_10 : decode cX12_nameOf 10 = .ok (.aload_n 0, 1) := by decide +kernel
theorem dX12_nameOf_11 : decode cX12_nameOf 11 = .ok (.getfield 147, 3) := by decide +kernel
theorem dX12_nameOf_14 : decode cX12_nameOf 14 = .ok (.bipush 116, 2) := by decide +kernel
theorem dX12_nameOf_16 : decode cX12_nameOf 16 = .ok (.bipush 105, 2) := by decide +kernel
theorem dX12_nameOf_18 : decode cX12_nameOf 18 = .ok (.bipush 109, 2) := by decide +kernel
theorem dX12_nameOf_20 : decode cX12_nameOf 20 = .ok (.bipush 101, 2) := by decide +kernel
theorem dX12_nameOf_22 : decode cX12_nameOf 22 = .ok (.invokestatic 164, 3) := by decide +kernel
theorem dX12_nameOf_25 : decode cX12_nameOf 25 = .ok (.lcmp, 1) := by decide +kernel
theorem dX12_nameOf_26 : decode cX12_nameOf 26 = .ok (.ifCond .ne 5, 3) := by decide +kernel
theorem dX12_nameOf_29 : decode cX12_nameOf 29 = .ok (.iconst 0, 1) := by decide +kernel
theorem dX12_nameOf_30 : decode cX12_nameOf 30 = .ok (.ireturn, 1) := by decide +kernel
theorem dX12_nameOf_31 : decode cX12_nameOf 31 = .ok (.aload_n 0, 1) := by decide +kernel
theorem dX12_nameOf_32 : decode cX12_nameOf 32 = .ok (.getfield 147, 3) := by decide +kernel
theorem dX12_nameOf_35 : decode cX12_nameOf 35 = .ok (.bipush 99, 2) := by decide +kernel
theorem dX12_nameOf_37 : decode cX12_nameOf 37 = .ok (.bipush 111, 2) := by decide +kernel
theorem dX12_nameOf_39 : decode cX12_nameOf 39 = .ok (.bipush 114, 2) := by decide +kernel
theorem dX12_nameOf_41 : decode cX12_nameOf 41 = .ok (.bipush 100, 2) := by decide +kernel
theorem dX12_nameOf_43 : decode cX12_nameOf 43 = .ok (.invokestatic 164, 3) := by decide +kernel
theorem dX12_nameOf_46 : decode cX12_nameOf 46 = .ok (.lcmp, 1) := by decide +kernel
theorem dX12_nameOf_47 : decode cX12_nameOf 47 = .ok (.ifCond .ne 5, 3) := by decide +kernel
theorem dX12_nameOf_50 : decode cX12_nameOf 50 = .ok (.iconst 1, 1) := by decide +kernel
theorem dX12_nameOf_51 : decode cX12_nameOf 51 = .ok (.ireturn, 1) := by decide +kernel
theorem dX12_nameOf_52 : decode cX12_nameOf 52 = .ok (.aload_n 0, 1) := by decide +kernel
theorem dX12_nameOf_53 : decode cX12_nameOf 53 = .ok (.getfield 147, 3) := by decide +kernel
theorem dX12_nameOf_56 : decode cX12_nameOf 56 = .ok (.bipush 114, 2) := by decide +kernel
theorem dX12_nameOf_58 : decode cX12_nameOf 58 = .ok (.bipush 101, 2) := by decide +kernel
theorem dX12_nameOf_60 : decode cX12_nameOf 60 = .ok (.bipush 115, 2) := by decide +kernel
theorem dX12_nameOf_62 : decode cX12_nameOf 62 = .ok (.bipush 116, 2) := by decide +kernel
theorem dX12_nameOf_64 : decode cX12_nameOf 64 = .ok (.invokestatic 164, 3) := by decide +kernel
theorem dX12_nameOf_67 : decode cX12_nameOf 67 = .ok (.lcmp, 1) := by decide +kernel
theorem dX12_nameOf_68 : decode cX12_nameOf 68 = .ok (.ifCond .ne 5, 3) := by decide +kernel
theorem dX12_nameOf_71 : decode cX12_nameOf 71 = .ok (.iconst 2, 1) := by decide +kernel
theorem dX12_nameOf_72 : decode cX12_nameOf 72 = .ok (.ireturn, 1) := by decide +kernel
theorem dX12_nameOf_73 : decode cX12_nameOf 73 = .ok (.aload_n 0, 1) := by decide +kernel
theorem dX12_nameOf_74 : decode cX12_nameOf 74 = .ok (.getfield 147, 3) := by decide +kernel
theorem dX12_nameOf_77 : decode cX12_nameOf 77 = .ok (.bipush 108, 2) := by decide +kernel
theorem dX12_nameOf_79 : decode cX12_nameOf 79 = .ok (.bipush 111, 2) := by decide +kernel
theorem dX12_nameOf_81 : decode cX12_nameOf 81 = .ok (.bipush 110, 2) := by decide +kernel
theorem dX12_nameOf_83 : decode cX12_nameOf 83 = .ok (.bipush 103, 2) := by decide +kernel
theorem dX12_nameOf_85 : decode cX12_nameOf 85 = .ok (.invokestatic 164, 3) := by decide +kernel
theorem dX12_nameOf_88 : decode cX12_nameOf 88 = .ok (.lcmp, 1) := by decide +kernel
theorem dX12_nameOf_89 : decode cX12_nameOf 89 = .ok (.ifCond .ne 5, 3) := by decide +kernel
theorem dX12_nameOf_92 : decode cX12_nameOf 92 = .ok (.iconst 3, 1) := by decide +kernel
theorem dX12_nameOf_93 : decode cX12_nameOf 93 = .ok (.ireturn, 1) := by decide +kernel
theorem dX12_nameOf_94 : decode cX12_nameOf 94 = .ok (.aload_n 0, 1) := by decide +kernel
theorem dX12_nameOf_95 : decode cX12_nameOf 95 = .ok (.getfield 147, 3) := by decide +kernel
theorem dX12_nameOf_98 : decode cX12_nameOf 98 = .ok (.bipush 112, 2) := by decide +kernel
theorem dX12_nameOf_100 : decode cX12_nameOf 100 = .ok (.bipush 114, 2) := by decide +kernel
theorem dX12_nameOf_102 : decode cX12_nameOf 102 = .ok (.bipush 105, 2) := by decide +kernel
theorem dX12_nameOf_104 : decode cX12_nameOf 104 = .ok (.bipush 99, 2) := by decide +kernel
theorem dX12_nameOf_106 : decode cX12_nameOf 106 = .ok (.bipush 101, 2) := by decide +kernel
theorem dX12_nameOf_108 : decode cX12_nameOf 108 = .ok (.invokestatic 168, 3) := by decide +kernel
theorem dX12_nameOf_111 : decode cX12_nameOf 111 = .ok (.lcmp, 1) := by decide +kernel
theorem dX12_nameOf_112 : decode cX12_nameOf 112 = .ok (.ifCond .ne 5, 3) := by decide +kernel
theorem dX12_nameOf_115 : decode cX12_nameOf 115 = .ok (.iconst 4, 1) := by decide +kernel
theorem dX12_nameOf_116 : decode cX12_nameOf 116 = .ok (.ireturn, 1) := by decide +kernel
theorem dX12_nameOf_117 : decode cX12_nameOf 117 = .ok (.aload_n 0, 1) := by decide +kernel
theorem dX12_nameOf_118 : decode cX12_nameOf 118 = .ok (.getfield 147, 3) := by decide +kernel
theorem dX12_nameOf_121 : decode cX12_nameOf 121 = .ok (.bipush 108, 2) := by decide +kernel
theorem dX12_nameOf_123 : decode cX12_nameOf 123 = .ok (.bipush 105, 2) := by decide +kernel
theorem dX12_nameOf_125 : decode cX12_nameOf 125 = .ok (.bipush 116, 2) := by decide +kernel
theorem dX12_nameOf_127 : decode cX12_nameOf 127 = .ok (.invokestatic 160, 3) := by decide +kernel
theorem dX12_nameOf_130 : decode cX12_nameOf 130 = .ok (.lcmp, 1) := by decide +kernel
theorem dX12_nameOf_131 : decode cX12_nameOf 131 = .ok (.ifCond .ne 7, 3) := by decide +kernel
theorem dX12_nameOf_134 : decode cX12_nameOf 134 = .ok (.iconst 5, 1) := by decide +kernel
theorem dX12_nameOf_135 : decode cX12_nameOf 135 = .ok (.goto 28, 3) := by decide +kernel
theorem dX12_nameOf_138 : decode cX12_nameOf 138 = .ok (.aload_n 0, 1) := by decide +kernel
theorem dX12_nameOf_139 : decode cX12_nameOf 139 = .ok (.getfield 147, 3) := by decide +kernel
theorem dX12_nameOf_142 : decode cX12_nameOf 142 = .ok (.bipush 115, 2) := by decide +kernel
theorem dX12_nameOf_144 : decode cX12_nameOf 144 = .ok (.bipush 105, 2) := by decide +kernel
theorem dX12_nameOf_146 : decode cX12_nameOf 146 = .ok (.bipush 100, 2) := by decide +kernel
theorem dX12_nameOf_148 : decode cX12_nameOf 148 = .ok (.bipush 101, 2) := by decide +kernel
theorem dX12_nameOf_150 : decode cX12_nameOf 150 = .ok (.invokestatic 164, 3) := by decide +kernel
theorem dX12_nameOf_153 : decode cX12_nameOf 153 = .ok (.lcmp, 1) := by decide +kernel
theorem dX12_nameOf_154 : decode cX12_nameOf 154 = .ok (.ifCond .ne 8, 3) := by decide +kernel
theorem dX12_nameOf_157 : decode cX12_nameOf 157 = .ok (.bipush 6, 2) := by decide +kernel
theorem dX12_nameOf_159 : decode cX12_nameOf 159 = .ok (.goto 4, 3) := by decide +kernel
theorem dX12_nameOf_162 : decode cX12_nameOf 162 = .ok (.iconst (-1), 1) := by decide +kernel
theorem dX12_nameOf_163 : decode cX12_nameOf 163 = .ok (.ireturn, 1) := by decide +kernel
def Md_nameOf (ν : Nm) : Option Int32 :=
  (if (gi ν 313 9) = (2 : Int32) then
    (Md_w4 (116 : Int32) (105 : Int32) (109 : Int32) (101 : Int32)).bind fun v2 =>
    (if ¬ (lg_cmp (gl ν 313 11) v2) = 0 then
      (Md_w4 (99 : Int32) (111 : Int32) (114 : Int32) (100 : Int32)).bind fun v4 =>
      (if ¬ (lg_cmp (gl ν 313 11) v4) = 0 then
        (Md_w4 (114 : Int32) (101 : Int32) (115 : Int32) (116 : Int32)).bind fun v6 =>
        (if ¬ (lg_cmp (gl ν 313 11) v6) = 0 then
          (Md_w4 (108 : Int32) (111 : Int32) (110 : Int32) (103 : Int32)).bind fun v8 =>
          (if ¬ (lg_cmp (gl ν 313 11) v8) = 0 then
            (Md_w5 (112 : Int32) (114 : Int32) (105 : Int32) (99 : Int32) (101 : Int32)).bind fun v10 =>
            (if ¬ (lg_cmp (gl ν 313 11) v10) = 0 then
              (Md_w3 (108 : Int32) (105 : Int32) (116 : Int32)).bind fun v12 =>
              (if ¬ (lg_cmp (gl ν 313 11) v12) = 0 then
                (Md_w4 (115 : Int32) (105 : Int32) (100 : Int32) (101 : Int32)).bind fun v14 =>
                (if ¬ (lg_cmp (gl ν 313 11) v14) = 0 then
                  some (-1 : Int32)
                else
                  some (6 : Int32))
              else
                some (5 : Int32))
            else
              some (4 : Int32))
          else
            some (3 : Int32))
        else
          some (2 : Int32))
      else
        some (1 : Int32))
    else
      some (0 : Int32))
  else
    some (-1 : Int32))
set_option maxRecDepth 100000 in
set_option maxHeartbeats 4000000 in
theorem t_Md_nameOf {g : GG} {d : Nat} {ν : Nm} (hd0 : 5 ≤ d) : ∀ (r : Int32), Md_nameOf ν = some r → Z g d (0, 0) mX12_nameOf 333 0 0 0 [(0, .ref 313)] [] (zem ν) (zF g (some (.int r), zem ν)) := by
  intro r h
  unfold Md_nameOf at h
  refine z_aload_n dX12_nameOf_0 0 rfl ?_
  refine y_getI dX12_nameOf_1 zk_313 flRX12_134 ?_
  refine z_iconst (M := mX12_nameOf) (v := 2) dX12_nameOf_4 rfl ?_
  refine z_icmp_eq 10 dX12_nameOf_5 rfl (fun hc1 => ?_) (fun hc1 => ?_)
  · replace h := oT hc1 h
    refine z_aload_n dX12_nameOf_10 0 rfl ?_
    refine y_getL dX12_nameOf_11 zk_313 flRX12_147 ?_
    refine z_bipush (M := mX12_nameOf) (v := 116) dX12_nameOf_14 rfl ?_
    refine z_bipush (M := mX12_nameOf) (v := 105) dX12_nameOf_16 rfl ?_
    refine z_bipush (M := mX12_nameOf) (v := 109) dX12_nameOf_18 rfl ?_
    refine z_bipush (M := mX12_nameOf) (v := 101) dX12_nameOf_20 rfl ?_
    obtain ⟨v2, he2, h⟩ := obind h
    refine y_Sl (M := mX12_nameOf) (Y := mX12_w4) (d2 := d - 1) (As := [.int (116 : Int32), .int (105 : Int32), .int (109 : Int32), .int (101 : Int32)]) (st := [.long (gl ν 313 11)]) dX12_nameOf_22 mlRX12_164 cv_X12_w4 (ct_Md_w4 (dle (Nat.le_of_ble_eq_true rfl) hd0) he2) (dps (Nat.le_of_ble_eq_true rfl) hd0) rfl rfl (Nat.le_of_ble_eq_true rfl) ?_
    refine z_lcmp dX12_nameOf_25 ?_
    refine z_if_ne 31 dX12_nameOf_26 rfl (fun hc3 => ?_) (fun hc3 => ?_)
    · replace h := oT hc3 h
      refine z_aload_n dX12_nameOf_31 0 rfl ?_
      refine y_getL dX12_nameOf_32 zk_313 flRX12_147 ?_
      refine z_bipush (M := mX12_nameOf) (v := 99) dX12_nameOf_35 rfl ?_
      refine z_bipush (M := mX12_nameOf) (v := 111) dX12_nameOf_37 rfl ?_
      refine z_bipush (M := mX12_nameOf) (v := 114) dX12_nameOf_39 rfl ?_
      refine z_bipush (M := mX12_nameOf) (v := 100) dX12_nameOf_41 rfl ?_
      obtain ⟨v4, he4, h⟩ := obind h
      refine y_Sl (M := mX12_nameOf) (Y := mX12_w4) (d2 := d - 1) (As := [.int (99 : Int32), .int (111 : Int32), .int (114 : Int32), .int (100 : Int32)]) (st := [.long (gl ν 313 11)]) dX12_nameOf_43 mlRX12_164 cv_X12_w4 (ct_Md_w4 (dle (Nat.le_of_ble_eq_true rfl) hd0) he4) (dps (Nat.le_of_ble_eq_true rfl) hd0) rfl rfl (Nat.le_of_ble_eq_true rfl) ?_
      refine z_lcmp dX12_nameOf_46 ?_
      refine z_if_ne 52 dX12_nameOf_47 rfl (fun hc5 => ?_) (fun hc5 => ?_)
      · replace h := oT hc5 h
        refine z_aload_n dX12_nameOf_52 0 rfl ?_
        refine y_getL dX12_nameOf_53 zk_313 flRX12_147 ?_
        refine z_bipush (M := mX12_nameOf) (v := 114) dX12_nameOf_56 rfl ?_
        refine z_bipush (M := mX12_nameOf) (v := 101) dX12_nameOf_58 rfl ?_
        refine z_bipush (M := mX12_nameOf) (v := 115) dX12_nameOf_60 rfl ?_
        refine z_bipush (M := mX12_nameOf) (v := 116) dX12_nameOf_62 rfl ?_
        obtain ⟨v6, he6, h⟩ := obind h
        refine y_Sl (M := mX12_nameOf) (Y := mX12_w4) (d2 := d - 1) (As := [.int (114 : Int32), .int (101 : Int32), .int (115 : Int32), .int (116 : Int32)]) (st := [.long (gl ν 313 11)]) dX12_nameOf_64 mlRX12_164 cv_X12_w4 (ct_Md_w4 (dle (Nat.le_of_ble_eq_true rfl) hd0) he6) (dps (Nat.le_of_ble_eq_true rfl) hd0) rfl rfl (Nat.le_of_ble_eq_true rfl) ?_
        refine z_lcmp dX12_nameOf_67 ?_
        refine z_if_ne 73 dX12_nameOf_68 rfl (fun hc7 => ?_) (fun hc7 => ?_)
        · replace h := oT hc7 h
          refine z_aload_n dX12_nameOf_73 0 rfl ?_
          refine y_getL dX12_nameOf_74 zk_313 flRX12_147 ?_
          refine z_bipush (M := mX12_nameOf) (v := 108) dX12_nameOf_77 rfl ?_
          refine z_bipush (M := mX12_nameOf) (v := 111) dX12_nameOf_79 rfl ?_
          refine z_bipush (M := mX12_nameOf) (v := 110) dX12_nameOf_81 rfl ?_
          refine z_bipush (M := mX12_nameOf) (v := 103) dX12_nameOf_83 rfl ?_
          obtain ⟨v8, he8, h⟩ := obind h
          refine y_Sl (M := mX12_nameOf) (Y := mX12_w4) (d2 := d - 1) (As := [.int (108 : Int32), .int (111 : Int32), .int (110 : Int32), .int (103 : Int32)]) (st := [.long (gl ν 313 11)]) dX12_nameOf_85 mlRX12_164 cv_X12_w4 (ct_Md_w4 (dle (Nat.le_of_ble_eq_true rfl) hd0) he8) (dps (Nat.le_of_ble_eq_true rfl) hd0) rfl rfl (Nat.le_of_ble_eq_true rfl) ?_
          refine z_lcmp dX12_nameOf_88 ?_
          refine z_if_ne 94 dX12_nameOf_89 rfl (fun hc9 => ?_) (fun hc9 => ?_)
          · replace h := oT hc9 h
            refine z_aload_n dX12_nameOf_94 0 rfl ?_
            refine y_getL dX12_nameOf_95 zk_313 flRX12_147 ?_
            refine z_bipush (M := mX12_nameOf) (v := 112) dX12_nameOf_98 rfl ?_
            refine z_bipush (M := mX12_nameOf) (v := 114) dX12_nameOf_100 rfl ?_
            refine z_bipush (M := mX12_nameOf) (v := 105) dX12_nameOf_102 rfl ?_
            refine z_bipush (M := mX12_nameOf) (v := 99) dX12_nameOf_104 rfl ?_
            refine z_bipush (M := mX12_nameOf) (v := 101) dX12_nameOf_106 rfl ?_
            obtain ⟨v10, he10, h⟩ := obind h
            refine y_Sl (M := mX12_nameOf) (Y := mX12_w5) (d2 := d - 1) (As := [.int (112 : Int32), .int (114 : Int32), .int (105 : Int32), .int (99 : Int32), .int (101 : Int32)]) (st := [.long (gl ν 313 11)]) dX12_nameOf_108 mlRX12_168 cv_X12_w5 (ct_Md_w5 (dle (Nat.le_of_ble_eq_true rfl) hd0) he10) (dps (Nat.le_of_ble_eq_true rfl) hd0) rfl rfl (Nat.le_of_ble_eq_true rfl) ?_
            refine z_lcmp dX12_nameOf_111 ?_
            refine z_if_ne 117 dX12_nameOf_112 rfl (fun hc11 => ?_) (fun hc11 => ?_)
            · replace h := oT hc11 h
              refine z_aload_n dX12_nameOf_117 0 rfl ?_
              refine y_getL dX12_nameOf_118 zk_313 flRX12_147 ?_
              refine z_bipush (M := mX12_nameOf) (v := 108) dX12_nameOf_121 rfl ?_
              refine z_bipush (M := mX12_nameOf) (v := 105) dX12_nameOf_123 rfl ?_
              refine z_bipush (M := mX12_nameOf) (v := 116) dX12_nameOf_125 rfl ?_
              obtain ⟨v12, he12, h⟩ := obind h
              refine y_Sl (M := mX12_nameOf) (Y := mX12_w3) (d2 := d - 1) (As := [.int (108 : Int32), .int (105 : Int32), .int (116 : Int32)]) (st := [.long (gl ν 313 11)]) dX12_nameOf_127 mlRX12_160 cv_X12_w3 (ct_Md_w3 (dle (Nat.le_of_ble_eq_true rfl) hd0) he12) (dps (Nat.le_of_ble_eq_true rfl) hd0) rfl rfl (Nat.le_of_ble_eq_true rfl) ?_
              refine z_lcmp dX12_nameOf_130 ?_
              refine z_if_ne 138 dX12_nameOf_131 rfl (fun hc13 => ?_) (fun hc13 => ?_)
              · replace h := oT hc13 h
                refine z_aload_n dX12_nameOf_138 0 rfl ?_
                refine y_getL dX12_nameOf_139 zk_313 flRX12_147 ?_
                refine z_bipush (M := mX12_nameOf) (v := 115) dX12_nameOf_142 rfl ?_
                refine z_bipush (M := mX12_nameOf) (v := 105) dX12_nameOf_144 rfl ?_
                refine z_bipush (M := mX12_nameOf) (v := 100) dX12_nameOf_146 rfl ?_
                refine z_bipush (M := mX12_nameOf) (v := 101) dX12_nameOf_148 rfl ?_
                obtain ⟨v14, he14, h⟩ := obind h
                refine y_Sl (M := mX12_nameOf) (Y := mX12_w4) (d2 := d - 1) (As := [.int (115 : Int32), .int (105 : Int32), .int (100 : Int32), .int (101 : Int32)]) (st := [.long (gl ν 313 11)]) dX12_nameOf_150 mlRX12_164 cv_X12_w4 (ct_Md_w4 (dle (Nat.le_of_ble_eq_true rfl) hd0) he14) (dps (Nat.le_of_ble_eq_true rfl) hd0) rfl rfl (Nat.le_of_ble_eq_true rfl) ?_
                refine z_lcmp dX12_nameOf_153 ?_
                refine z_if_ne 162 dX12_nameOf_154 rfl (fun hc15 => ?_) (fun hc15 => ?_)
                · replace h := oT hc15 h
                  refine z_iconst (M := mX12_nameOf) (v := -1) dX12_nameOf_162 rfl ?_
                  cases h
                  exact z_iret dX12_nameOf_163 rfl
                · replace h := oFn hc15 h
                  refine z_bipush (M := mX12_nameOf) (v := 6) dX12_nameOf_157 rfl ?_
                  refine z_goto 163 dX12_nameOf_159 rfl ?_
                  cases h
                  exact z_iret dX12_nameOf_163 rfl
              · replace h := oFn hc13 h
                refine z_iconst (M := mX12_nameOf) (v := 5) dX12_nameOf_134 rfl ?_
                refine z_goto 163 dX12_nameOf_135 rfl ?_
                cases h
                exact z_iret dX12_nameOf_163 rfl
            · replace h := oFn hc11 h
              refine z_iconst (M := mX12_nameOf) (v := 4) dX12_nameOf_115 rfl ?_
              cases h
              exact z_iret dX12_nameOf_116 rfl
          · replace h := oFn hc9 h
            refine z_iconst (M := mX12_nameOf) (v := 3) dX12_nameOf_92 rfl ?_
            cases h
            exact z_iret dX12_nameOf_93 rfl
        · replace h := oFn hc7 h
          refine z_iconst (M := mX12_nameOf) (v := 2) dX12_nameOf_71 rfl ?_
          cases h
          exact z_iret dX12_nameOf_72 rfl
      · replace h := oFn hc5 h
        refine z_iconst (M := mX12_nameOf) (v := 1) dX12_nameOf_50 rfl ?_
        cases h
        exact z_iret dX12_nameOf_51 rfl
    · replace h := oFn hc3 h
      refine z_iconst (M := mX12_nameOf) (v := 0) dX12_nameOf_29 rfl ?_
      cases h
      exact z_iret dX12_nameOf_30 rfl
  · replace h := oF hc1 h
    refine z_iconst (M := mX12_nameOf) (v := -1) dX12_nameOf_8 rfl ?_
    cases h
    exact z_iret dX12_nameOf_9 rfl
theorem ct_Md_nameOf {g : GG} {d : Nat} {ν : Nm} {r : Int32} (hd0 : 5 ≤ d)  (h : Md_nameOf ν = some r) : Ct g d mX12_nameOf [.ref 313] (zem ν) (some (.int r), zem ν) := y_entry in_X12_nameOf (Nat.le_of_ble_eq_true rfl) rfl (t_Md_nameOf hd0 r h)
-- FuseMinutesModel.opened(I)I
theorem dX12_opened_0 : decode cX12_opened 0 = .ok (.aload_n 0, 1) := by decide +kernel
theorem dX12_opened_1 : decode cX12_opened 1 = .ok (.getfield 188, 3) := by decide +kernel
theorem dX12_opened_4 : decode cX12_opened 4 = .ok (.bipush 8, 2) := by decide +kernel
theorem dX12_opened_6 : decode cX12_opened 6 = .ok (.if_icmp .ne 5, 3) := by decide +kernel
theorem dX12_opened_9 : decode cX12_opened 9 = .ok (.iconst 3, 1) := by decide +kernel
theorem dX12_opened_10 : decode cX12_opened 10 = .ok (.ireturn, 1) := by decide +kernel
theorem dX12_opened_11 : decode cX12_opened 11 = .ok (.aload_n 0, 1) := by decide +kernel
theorem dX12_opened_12 : decode cX12_opened 12 = .ok (.dup, 1) := by decide +kernel
theorem dX12_opened_13 : decode cX12_opened 13 = .ok (.getfield 188, 3) := by decide +kernel
theorem dX12_opened_16 : decode cX12_opened 16 = .ok (.iconst 1, 1) := by decide +kernel
theorem dX12_opened_17 : decode cX12_opened 17 = .ok (.iadd, 1) := by decide +kernel
theorem dX12_opened_18 : decode cX12_opened 18 = .ok (.putfield 188, 3) := by decide +kernel
theorem dX12_opened_21 : decode cX12_opened 21 = .ok (.aload_n 0, 1) := by decide +kernel
theorem dX12_opened_22 : decode cX12_opened 22 = .ok (.getfield 29, 3) := by decide +kernel
theorem dX12_opened_25 : decode cX12_opened 25 = .ok (.aload_n 0, 1) := by decide +kernel
theorem dX12_opened_26 : decode cX12_opened 26 = .ok (.getfield 178, 3) := by decide +kernel
theorem dX12_opened_29 : decode cX12_opened 29 = .ok (.iload_n 1, 1) := by decide +kernel
theorem dX12_opened_30 : decode cX12_opened 30 = .ok (.iastore, 1) := by decide +kernel
theorem dX12_opened_31 : decode cX12_opened 31 = .ok (.aload_n 0, 1) := by decide +kernel
theorem dX12_opened_32 : decode cX12_opened 32 = .ok (.dup, 1) := by decide +kernel
theorem dX12_opened_33 : decode cX12_opened 33 = .ok (.getfield 178, 3) := by decide +kernel
theorem dX12_opened_36 : decode cX12_opened 36 = .ok (.iconst 1, 1) := by decide +kernel
theorem dX12_opened_37 : decode cX12_opened 37 = .ok (.iadd, 1) := by decide +kernel
theorem dX12_opened_38 : decode cX12_opened 38 = .ok (.putfield 178, 3) := by decide +kernel
theorem dX12_opened_41 : decode cX12_opened 41 = .ok (.aload_n 0, 1) := by decide +kernel
theorem dX12_opened_42 : decode cX12_opened 42 = .ok (.invokevirtual 198, 3) := by decide +kernel
theorem dX12_opened_45 : decode cX12_opened 45 = .ok (.iconst 0, 1) := by decide +kernel
theorem dX12_opened_46 : decode cX12_opened 46 = .ok (.ireturn, 1) := by decide +kernel
def Md_opened_41 (ν : Nm) : Option (Int32 × Nm) :=
  (Md_nextToken ν).bind fun v1 =>
  some ((0 : Int32), v1)
set_option maxRecDepth 100000 in
set_option maxHeartbeats 4000000 in
theorem t_Md_opened_41 {g : GG} {d : Nat} (hd0 : 3 ≤ d) : ∀ (ν : Nm) (r : (Int32 × Nm)), Md_opened_41 ν = some r → Z g d (0, 0) mX12_opened 333 0 0 41 [(0, .ref 313)] [] (zem ν) (zF g (some (.int r.1), zem r.2)) := by
  intro ν r h
  unfold Md_opened_41 at h
  refine z_aload_n dX12_opened_41 0 rfl ?_
  obtain ⟨v1, he1, h⟩ := obind h
  refine y_Vv (M := mX12_opened) (Y := mX12_nextToken) (d2 := d - 1) (As := []) (st := []) dX12_opened_42 mlRX12_198 cv_X12_nextToken zk_313 (ct_Md_nextToken (dle (Nat.le_of_ble_eq_true rfl) hd0) he1) (dps (Nat.le_of_ble_eq_true rfl) hd0) rfl rfl (Nat.le_of_ble_eq_true rfl) ?_
  refine z_iconst (M := mX12_opened) (v := 0) dX12_opened_45 rfl ?_
  cases h
  exact z_iret dX12_opened_46 rfl
def Md_opened (x1 : Int32) (ν : Nm) : Option (Int32 × Nm) :=
  (if ¬ (gi ν 313 17) = (8 : Int32) then
    if inb (gi (si ν 313 17 ((gi ν 313 17) + (1 : Int32))) 313 16) 160 then
    Md_opened_41 (si (si (si ν 313 17 ((gi ν 313 17) + (1 : Int32))) 318 (gi (si ν 313 17 ((gi ν 313 17) + (1 : Int32))) 313 16).toNatClampNeg x1) 313 16 ((gi (si (si ν 313 17 ((gi ν 313 17) + (1 : Int32))) 318 (gi (si ν 313 17 ((gi ν 313 17) + (1 : Int32))) 313 16).toNatClampNeg x1) 313 16) + (1 : Int32)))
    else none
  else
    some ((3 : Int32), ν))
set_option maxRecDepth 100000 in
set_option maxHeartbeats 4000000 in
theorem t_Md_opened {g : GG} {d : Nat} (hd0 : 3 ≤ d) : ∀ (x1 : Int32) (ν : Nm) (r : (Int32 × Nm)), Md_opened x1 ν = some r → Z g d (0, 0) mX12_opened 333 0 0 0 [(0, .ref 313), (1, .int x1)] [] (zem ν) (zF g (some (.int r.1), zem r.2)) := by
  intro x1 ν r h
  unfold Md_opened at h
  refine z_aload_n dX12_opened_0 0 rfl ?_
  refine y_getI dX12_opened_1 zk_313 flRX12_188 ?_
  refine z_bipush (M := mX12_opened) (v := 8) dX12_opened_4 rfl ?_
  refine z_icmp_ne 11 dX12_opened_6 rfl (fun hc1 => ?_) (fun hc1 => ?_)
  · replace h := oT hc1 h
    refine z_aload_n dX12_opened_11 0 rfl ?_
    refine z_dup dX12_opened_12 rfl ?_
    refine y_getI dX12_opened_13 zk_313 flRX12_188 ?_
    refine z_iconst (M := mX12_opened) (v := 1) dX12_opened_16 rfl ?_
    refine z_iadd dX12_opened_17 ?_
    refine y_putI dX12_opened_18 zk_313 flRX12_188 ⟨rfl, rfl⟩ ?_
    refine z_aload_n dX12_opened_21 0 rfl ?_
    refine y_getR (M := mX12_opened) (r := 318) dX12_opened_22 zk_313 flRX12_29 fr_10_15.1 (fr_10_15.2 _) ?_
    refine z_aload_n dX12_opened_25 0 rfl ?_
    refine y_getI dX12_opened_26 zk_313 flRX12_178 ?_
    refine z_iload_n dX12_opened_29 1 rfl ?_
    obtain ⟨hi2, h⟩ := oif h
    refine y_iast (M := mX12_opened) (jj := (gi (si ν 313 17 ((gi ν 313 17) + (1 : Int32))) 313 16).toNatClampNeg) dX12_opened_30 zk_318 hi2 rfl ?_
    refine z_aload_n dX12_opened_31 0 rfl ?_
    refine z_dup dX12_opened_32 rfl ?_
    refine y_getI dX12_opened_33 zk_313 flRX12_178 ?_
    refine z_iconst (M := mX12_opened) (v := 1) dX12_opened_36 rfl ?_
    refine z_iadd dX12_opened_37 ?_
    refine y_putI dX12_opened_38 zk_313 flRX12_178 ⟨rfl, rfl⟩ ?_
    refine z_lv (lv2 := [(0, .ref 313)]) [0] rfl ?_
    exact t_Md_opened_41 hd0  (si (si (si ν 313 17 ((gi ν 313 17) + (1 : Int32))) 318 (gi (si ν 313 17 ((gi ν 313 17) + (1 : Int32))) 313 16).toNatClampNeg x1) 313 16 ((gi (si (si ν 313 17 ((gi ν 313 17) + (1 : Int32))) 318 (gi (si ν 313 17 ((gi ν 313 17) + (1 : Int32))) 313 16).toNatClampNeg x1) 313 16) + (1 : Int32))) _ h
  · replace h := oFn hc1 h
    refine z_iconst (M := mX12_opened) (v := 3) dX12_opened_9 rfl ?_
    cases h
    exact z_iret dX12_opened_10 rfl
theorem ct_Md_opened {g : GG} {d : Nat} {x1 : Int32} {ν : Nm} {r : (Int32 × Nm)} (hd0 : 3 ≤ d)  (h : Md_opened x1 ν = some r) : Ct g d mX12_opened [.ref 313, .int x1] (zem ν) (some (.int r.1), zem r.2) := y_entry in_X12_opened (Nat.le_of_ble_eq_true rfl) rfl (t_Md_opened hd0 x1 ν r h)
-- FuseMinutesModel.settle(I)V
theorem dX12_settle_0 : decode cX12_settle 0 = .ok (.aload_n 0, 1) := by decide +kernel
theorem dX12_settle_1 : decode cX12_settle 1 = .ok (.getfield 178, 3) := by decide +kernel
theorem dX12_settle_4 : decode cX12_settle 4 = .ok (.ifCond .le 89, 3) := by decide +kernel
theorem dX12_settle_7 : decode cX12_settle 7 = .ok (.aload_n 0, 1) := by decide +kernel
theorem dX12_settle_8 : decode cX12_settle 8 = .ok (.getfield 29, 3) := by decide +kernel
theorem dX12_settle_11 : decode cX12_settle 11 = .ok (.aload_n 0, 1) := by decide +kernel
theorem dX12_settle_12 : decode cX12_settle 12 = .ok (.getfield 178, 3) := by decide +kernel
theorem dX12_settle_15 : decode cX12_settle 15 = .ok (.iconst 1, 1) := by decide +kernel
theorem dX12_settle_16 : decode cX12_settle 16 = .ok (.isub, 1) := by decide +kernel
theorem dX12_settle_17 : decode cX12_settle 17 = .ok (.iaload, 1) := by decide +kernel
theorem dX12_settle_18 : decode cX12_settle 18 = .ok (.invokestatic 181, 3) := by decide +kernel
theorem dX12_settle_21 : decode cX12_settle 21 = .ok (.iload_n 1, 1) := by decide +kernel
theorem dX12_settle_22 : decode cX12_settle 22 = .ok (.if_icmp .lt 71, 3) := by decide +kernel
theorem dX12_settle_25 : decode cX12_settle 25 = .ok (.aload_n 0, 1) := by decide +kernel
theorem dX12_settle_26 : decode cX12_settle 26 = .ok (.dup, 1) := by decide +kernel
theorem dX12_settle_27 : decode cX12_settle 27 = .ok (.getfield 178, 3) := by decide +kernel
theorem dX12_settle_30 : decode cX12_settle 30 = .ok (.iconst 1, 1) := by decide +kernel
theorem dX12_settle_31 : decode cX12_settle 31 = .ok (.isub, 1) := by decide +kernel
theorem dX12_settle_32 : decode cX12_settle 32 = .ok (.putfield 178, 3) := by decide +kernel
theorem dX12_settle_35 : decode cX12_settle 35 = .ok (.aload_n 0, 1) := by decide +kernel
theorem dX12_settle_36 : decode cX12_settle 36 = .ok (.aload_n 0, 1) := by decide +kernel
theorem dX12_settle_37 : decode cX12_settle 37 = .ok (.getfield 29, 3) := by decide +kernel
theorem dX12_settle_40 : decode cX12_settle 40 = .ok (.aload_n 0, 1) := by decide +kernel
theorem dX12_settle_41 : decode cX12_settle 41 = .ok (.getfield 178, 3) := by decide +kernel
theorem dX12_settle_44 : decode cX12_settle 44 = .ok (.iaload, 1) := by decide +kernel
theorem dX12_settle_45 : decode cX12_settle 45 = .ok (.iconst 0, 1) := by decide +kernel
theorem dX12_settle_46 : decode cX12_settle 46 = .ok (.invokevirtual 184, 3) := by decide +kernel
theorem dX12_settle_49 : decode cX12_settle 49 = .ok (.aload_n 0, 1) := by decide +kernel
theorem dX12_settle_50 : decode cX12_settle 50 = .ok (.getfield 29, 3) := by decide +kernel
theorem dX12_settle_53 : decode cX12_settle 53 = .ok (.aload_n 0, 1) := by decide +kernel
theorem dX12_settle_54 : decode cX12_settle 54 = .ok (.getfield 178, 3) := by decide +kernel
theorem dX12_settle_57 : decode cX12_settle 57 = .ok (.iaload, 1) := by decide +kernel
theorem dX12_settle_58 : decode cX12_settle 58 = .ok (.invokestatic 181, 3) := by decide +kernel
theorem dX12_settle_61 : decode cX12_settle 61 = .ok (.bipush 7, 2) := by decide +kernel
theorem dX12_settle_63 : decode cX12_settle 63 = .ok (.if_icmp .eq 17, 3) := by decide +kernel
theorem dX12_settle_66 : decode cX12_settle 66 = .ok (.aload_n 0, 1) := by decide +kernel
theorem dX12_settle_67 : decode cX12_settle 67 = .ok (.getfield 29, 3) := by decide +kernel
theorem dX12_settle_70 : decode cX12_settle 70 = .ok (.aload_n 0, 1) := by decide +kernel
theorem dX12_settle_71 : decode cX12_settle 71 = .ok (.getfield 178, 3) := by decide +kernel
theorem dX12_settle_74 : decode cX12_settle 74 = .ok (.iaload, 1) := by decide +kernel
theorem dX12_settle_75 : decode cX12_settle 75 = .ok (.bipush 20, 2) := by decide +kernel
theorem dX12_settle_77 : decode cX12_settle 77 = .ok (.if_icmp .ne (-77), 3) := by decide +kernel
theorem dX12_settle_80 : decode cX12_settle 80 = .ok (.aload_n 0, 1) := by decide +kernel
theorem dX12_settle_81 : decode cX12_settle 81 = .ok (.dup, 1) := by decide +kernel
theorem dX12_settle_82 : decode cX12_settle 82 = .ok (.getfield 188, 3) := by decide +kernel
theorem dX12_settle_85 : decode cX12_settle 85 = .ok (.iconst 1, 1) := by decide +kernel
theorem dX12_settle_86 : decode cX12_settle 86 = .ok (.isub, 1) := by decide +kernel
theorem dX12_settle_87 : decode cX12_settle 87 = .ok (.putfield 188, 3) := by decide +kernel
theorem dX12_settle_90 : decode cX12_settle 90 = .ok (.goto (-90), 3) := by decide +kernel
theorem dX12_settle_93 : decode cX12_settle 93 = .ok (.return_, 1) := by decide +kernel
def Md_settle_80 (k0 : Int32 → Nm → Option Nm) (x1 : Int32) (ν : Nm) : Option Nm :=
  k0 x1 (si ν 313 17 ((gi ν 313 17) - (1 : Int32)))
set_option maxRecDepth 100000 in
set_option maxHeartbeats 4000000 in
theorem t_Md_settle_80 {g : GG} {d : Nat} (hd0 : 2 ≤ d) {k0 : Int32 → Nm → Option Nm} (hk0 : ∀ (x1 : Int32) (ν : Nm) (r : Nm), k0 x1 ν = some r → Z g d (0, 0) mX12_settle 333 0 0 0 [(0, .ref 313), (1, .int x1)] [] (zem ν) (zF g (none, zem r))) : ∀ (x1 : Int32) (ν : Nm) (r : Nm), Md_settle_80 k0 x1 ν = some r → Z g d (0, 0) mX12_settle 333 0 0 80 [(0, .ref 313), (1, .int x1)] [] (zem ν) (zF g (none, zem r)) := by
  intro x1 ν r h
  unfold Md_settle_80 at h
  refine z_aload_n dX12_settle_80 0 rfl ?_
  refine z_dup dX12_settle_81 rfl ?_
  refine y_getI dX12_settle_82 zk_313 flRX12_188 ?_
  refine z_iconst (M := mX12_settle) (v := 1) dX12_settle_85 rfl ?_
  refine z_isub dX12_settle_86 ?_
  refine y_putI dX12_settle_87 zk_313 flRX12_188 ⟨rfl, rfl⟩ ?_
  refine z_goto 0 dX12_settle_90 rfl ?_
  exact hk0 x1 (si ν 313 17 ((gi ν 313 17) - (1 : Int32))) _ h
def Md_settle_0 : Nat → Int32 → Nm → Option Nm
  | 0, _, _ => none
  | f + 1, x1, ν =>
    (if (gi ν 313 16) ≤ 0 then
      some ν
    else
      if inb ((gi ν 313 16) - (1 : Int32)) 160 then
      (Md_rank (gi ν 318 ((gi ν 313 16) - (1 : Int32)).toNatClampNeg)).bind fun v3 =>
      (if v3 < x1 then
        some ν
      else
        if inb (gi (si ν 313 16 ((gi ν 313 16) - (1 : Int32))) 313 16) 160 then
        (Md_emit (gi (si ν 313 16 ((gi ν 313 16) - (1 : Int32))) 318 (gi (si ν 313 16 ((gi ν 313 16) - (1 : Int32))) 313 16).toNatClampNeg) (0 : Int32) (si ν 313 16 ((gi ν 313 16) - (1 : Int32)))).bind fun v6 =>
        if inb (gi v6 313 16) 160 then
        (Md_rank (gi v6 318 (gi v6 313 16).toNatClampNeg)).bind fun v8 =>
        (if v8 = (7 : Int32) then
          Md_settle_80 (Md_settle_0 f) x1 v6
        else
          if inb (gi v6 313 16) 160 then
          (if ¬ (gi v6 318 (gi v6 313 16).toNatClampNeg) = (20 : Int32) then
            (Md_settle_0 f) x1 v6
          else
            Md_settle_80 (Md_settle_0 f) x1 v6)
          else none)
        else none
        else none)
      else none)
set_option maxRecDepth 100000 in
set_option maxHeartbeats 4000000 in
theorem t_Md_settle_0 {g : GG} {d : Nat} (hd0 : 2 ≤ d) : ∀ (f : Nat), ∀ (x1 : Int32) (ν : Nm) (r : Nm), Md_settle_0 f x1 ν = some r → Z g d (0, 0) mX12_settle 333 0 0 0 [(0, .ref 313), (1, .int x1)] [] (zem ν) (zF g (none, zem r)) := by
  intro f
  induction f with
  | zero =>
    intro x1 ν r h
    cases h
  | succ f ih =>
    intro x1 ν r h
    rw [Md_settle_0] at h
    refine z_aload_n dX12_settle_0 0 rfl ?_
    refine y_getI dX12_settle_1 zk_313 flRX12_178 ?_
    refine z_if_le 93 dX12_settle_4 rfl (fun hc1 => ?_) (fun hc1 => ?_)
    · replace h := oT hc1 h
      cases h
      exact z_vret dX12_settle_93 rfl
    · replace h := oF hc1 h
      refine z_aload_n dX12_settle_7 0 rfl ?_
      refine y_getR (M := mX12_settle) (r := 318) dX12_settle_8 zk_313 flRX12_29 fr_10_15.1 (fr_10_15.2 _) ?_
      refine z_aload_n dX12_settle_11 0 rfl ?_
      refine y_getI dX12_settle_12 zk_313 flRX12_178 ?_
      refine z_iconst (M := mX12_settle) (v := 1) dX12_settle_15 rfl ?_
      refine z_isub dX12_settle_16 ?_
      obtain ⟨hi2, h⟩ := oif h
      refine y_iald (M := mX12_settle) (jj := ((gi ν 313 16) - (1 : Int32)).toNatClampNeg) dX12_settle_17 zk_318 hi2 rfl ?_
      obtain ⟨v3, he3, h⟩ := obind h
      refine y_Si (M := mX12_settle) (Y := mX12_rank) (d2 := d - 1) (As := [.int (gi ν 318 ((gi ν 313 16) - (1 : Int32)).toNatClampNeg)]) (st := []) dX12_settle_18 mlRX12_181 cv_X12_rank (ct_Md_rank (dle (Nat.le_of_ble_eq_true rfl) hd0) he3) (dps (Nat.le_of_ble_eq_true rfl) hd0) rfl rfl (Nat.le_of_ble_eq_true rfl) ?_
      refine z_iload_n dX12_settle_21 1 rfl ?_
      refine z_icmp_lt 93 dX12_settle_22 rfl (fun hc4 => ?_) (fun hc4 => ?_)
      · replace h := oT hc4 h
        cases h
        exact z_vret dX12_settle_93 rfl
      · replace h := oF hc4 h
        refine z_aload_n dX12_settle_25 0 rfl ?_
        refine z_dup dX12_settle_26 rfl ?_
        refine y_getI dX12_settle_27 zk_313 flRX12_178 ?_
        refine z_iconst (M := mX12_settle) (v := 1) dX12_settle_30 rfl ?_
        refine z_isub dX12_settle_31 ?_
        refine y_putI dX12_settle_32 zk_313 flRX12_178 ⟨rfl, rfl⟩ ?_
        refine z_aload_n dX12_settle_35 0 rfl ?_
        refine z_aload_n dX12_settle_36 0 rfl ?_
        refine y_getR (M := mX12_settle) (r := 318) dX12_settle_37 zk_313 flRX12_29 fr_10_15.1 (fr_10_15.2 _) ?_
        refine z_aload_n dX12_settle_40 0 rfl ?_
        refine y_getI dX12_settle_41 zk_313 flRX12_178 ?_
        obtain ⟨hi5, h⟩ := oif h
        refine y_iald (M := mX12_settle) (jj := (gi (si ν 313 16 ((gi ν 313 16) - (1 : Int32))) 313 16).toNatClampNeg) dX12_settle_44 zk_318 hi5 rfl ?_
        refine z_iconst (M := mX12_settle) (v := 0) dX12_settle_45 rfl ?_
        obtain ⟨v6, he6, h⟩ := obind h
        refine y_Vv (M := mX12_settle) (Y := mX12_emit) (d2 := d - 1) (As := [.int (gi (si ν 313 16 ((gi ν 313 16) - (1 : Int32))) 318 (gi (si ν 313 16 ((gi ν 313 16) - (1 : Int32))) 313 16).toNatClampNeg), .int (0 : Int32)]) (st := []) dX12_settle_46 mlRX12_184 cv_X12_emit zk_313 (ct_Md_emit (dle (Nat.le_of_ble_eq_true rfl) hd0) he6) (dps (Nat.le_of_ble_eq_true rfl) hd0) rfl rfl (Nat.le_of_ble_eq_true rfl) ?_
        refine z_aload_n dX12_settle_49 0 rfl ?_
        refine y_getR (M := mX12_settle) (r := 318) dX12_settle_50 zk_313 flRX12_29 fr_10_15.1 (fr_10_15.2 _) ?_
        refine z_aload_n dX12_settle_53 0 rfl ?_
        refine y_getI dX12_settle_54 zk_313 flRX12_178 ?_
        obtain ⟨hi7, h⟩ := oif h
        refine y_iald (M := mX12_settle) (jj := (gi v6 313 16).toNatClampNeg) dX12_settle_57 zk_318 hi7 rfl ?_
        obtain ⟨v8, he8, h⟩ := obind h
        refine y_Si (M := mX12_settle) (Y := mX12_rank) (d2 := d - 1) (As := [.int (gi v6 318 (gi v6 313 16).toNatClampNeg)]) (st := []) dX12_settle_58 mlRX12_181 cv_X12_rank (ct_Md_rank (dle (Nat.le_of_ble_eq_true rfl) hd0) he8) (dps (Nat.le_of_ble_eq_true rfl) hd0) rfl rfl (Nat.le_of_ble_eq_true rfl) ?_
        refine z_bipush (M := mX12_settle) (v := 7) dX12_settle_61 rfl ?_
        refine z_icmp_eq 80 dX12_settle_63 rfl (fun hc9 => ?_) (fun hc9 => ?_)
        · replace h := oT hc9 h
          exact t_Md_settle_80 hd0 ih x1 v6 _ h
        · replace h := oF hc9 h
          refine z_aload_n dX12_settle_66 0 rfl ?_
          refine y_getR (M := mX12_settle) (r := 318) dX12_settle_67 zk_313 flRX12_29 fr_10_15.1 (fr_10_15.2 _) ?_
          refine z_aload_n dX12_settle_70 0 rfl ?_
          refine y_getI dX12_settle_71 zk_313 flRX12_178 ?_
          obtain ⟨hi10, h⟩ := oif h
          refine y_iald (M := mX12_settle) (jj := (gi v6 313 16).toNatClampNeg) dX12_settle_74 zk_318 hi10 rfl ?_
          refine z_bipush (M := mX12_settle) (v := 20) dX12_settle_75 rfl ?_
          refine z_icmp_ne 0 dX12_settle_77 rfl (fun hc11 => ?_) (fun hc11 => ?_)
          · replace h := oT hc11 h
            exact ih x1 v6 _ h
          · replace h := oFn hc11 h
            exact t_Md_settle_80 hd0 ih x1 v6 _ h
def Md_settle (x1 : Int32) (ν : Nm) : Option Nm := Md_settle_0 FU x1 ν
theorem ct_Md_settle {g : GG} {d : Nat} {x1 : Int32} {ν : Nm} {r : Nm} (hd0 : 2 ≤ d)  (h : Md_settle x1 ν = some r) : Ct g d mX12_settle [.ref 313, .int x1] (zem ν) (none, zem r) := y_entry in_X12_settle (Nat.le_of_ble_eq_true rfl) rfl (t_Md_settle_0 hd0 FU x1 ν r h)
-- FuseMinutesModel.beginOne()I
theorem dX12_beginOne_0 : decode cX12_beginOne 0 = .ok (.aload_n 0, 1) := by decide +kernel
theorem dX12_beginOne_1 : decode cX12_beginOne 1 = .ok (.getfield 134, 3) := by decide +kernel
theorem dX12_beginOne_4 : decode cX12_beginOne 4 = .ok (.iconst 1, 1) := by decide +kernel
theorem dX12_beginOne_5 : decode cX12_beginOne 5 = .ok (.if_icmp .ne 15, 3) := by decide +kernel
theorem dX12_beginOne_8 : decode cX12_beginOne 8 = .ok (.aload_n 0, 1) := by decide +kernel
theorem dX12_beginOne_9 : decode cX12_beginOne 9 = .ok (.getfield 140, 3) := by decide +kernel
theorem dX12_beginOne_12 : decode cX12_beginOne 12 = .ok (.sipush 9999, 3) := by decide +kernel
theorem dX12_beginOne_15 : decode cX12_beginOne 15 = .ok (.if_icmp .le 5, 3) := by decide +kernel
theorem dX12_beginOne_18 : decode cX12_beginOne 18 = .ok (.iconst 2, 1) := by decide +kernel
theorem dX12_beginOne_19 : decode cX12_beginOne 19 = .ok (.ireturn, 1) := by decide +kernel
theorem dX12_beginOne_20 : decode cX12_beginOne 20 = .ok (.aload_n 0, 1) := by decide +kernel
theorem dX12_beginOne_21 : decode cX12_beginOne 21 = .ok (.invokevirtual 201, 3) := by decide +kernel
theorem dX12_beginOne_24 : decode cX12_beginOne 24 = .ok (.istore_n 1, 1) := by decide +kernel
theorem dX12_beginOne_25 : decode cX12_beginOne 25 = .ok (.iload_n 1, 1) := by decide +kernel
theorem dX12_beginOne_26 : decode cX12_beginOne 26 = .ok (.bipush 6, 2) := by decide +kernel
theorem dX12_beginOne_28 : decode cX12_beginOne 28 = .ok (.if_icmp .ne 12, 3) := by decide +kernel
theorem dX12_beginOne_31 : decode cX12_beginOne 31 = .ok (.aload_n 0, 1) := by decide +kernel
theorem dX12_beginOne_32 : decode cX12_beginOne 32 = .ok (.getfield 204, 3) := by decide +kernel
theorem dX12_beginOne_35 : decode cX12_beginOne 35 = .ok (.ifCond .eq 5, 3) := by decide +kernel
theorem dX12_beginOne_38 : decode cX12_beginOne 38 = .ok (.iconst 5, 1) := by decide +kernel
theorem dX12_beginOne_39 : decode cX12_beginOne 39 = .ok (.ireturn, 1) := by decide +kernel
theorem dX12_beginOne_40 : decode cX12_beginOne 40 = .ok (.aload_n 0, 1) := by decide +kernel
theorem dX12_beginOne_41 : decode cX12_beginOne 41 = .ok (.getfield 134, 3) := by decide +kernel
theorem dX12_beginOne_44 : decode cX12_beginOne 44 = .ok (.iconst 1, 1) := by decide +kernel
theorem dX12_beginOne_45 : decode cX12_beginOne 45 = .ok (.if_icmp .eq 7, 3) := by decide +kernel
theorem dX12_beginOne_48 : decode cX12_beginOne 48 = .ok (.iload_n 1, 1) := by decide +kernel
theorem dX12_beginOne_49 : decode cX12_beginOne 49 = .ok (.ifCond .lt 53, 3) := by decide +kernel
theorem dX12_beginOne_52 : decode cX12_beginOne 52 = .ok (.aload_n 0, 1) := by decide +kernel
theorem dX12_beginOne_53 : decode cX12_beginOne 53 = .ok (.aload_n 0, 1) := by decide +kernel
theorem dX12_beginOne_54 : decode cX12_beginOne 54 = .ok (.getfield 134, 3) := by decide +kernel
theorem dX12_beginOne_57 : decode cX12_beginOne 57 = .ok (.iconst 1, 1) := by decide +kernel
theorem dX12_beginOne_58 : decode cX12_beginOne 58 = .ok (.if_icmp .ne 7, 3) := by decide +kernel
theorem dX12_beginOne_61 : decode cX12_beginOne 61 = .ok (.iconst 0, 1) := by decide +kernel
theorem dX12_beginOne_62 : decode cX12_beginOne 62 = .ok (.goto 4, 3) := by decide +kernel
theorem dX12_beginOne_65 : decode cX12_beginOne 65 = .ok (.iconst 1, 1) := by decide +kernel
theorem dX12_beginOne_66 : decode cX12_beginOne 66 = .ok (.aload_n 0, 1) := by decide +kernel
theorem dX12_beginOne_67 : decode cX12_beginOne 67 = .ok (.getfield 134, 3) := by decide +kernel
theorem dX12_beginOne_70 : decode cX12_beginOne 70 = .ok (.iconst 1, 1) := by decide +kernel
theorem dX12_beginOne_71 : decode cX12_beginOne 71 = .ok (.if_icmp .ne 10, 3) := by decide +kernel
theorem dX12_beginOne_74 : decode cX12_beginOne 74 = .ok (.aload_n 0, 1) := by decide +kernel
theorem dX12_beginOne_75 : decode cX12_beginOne 75 = .ok (.getfield 140, 3) := by decide +kernel
theorem dX12_beginOne_78 : decode cX12_beginOne 78 = .ok (.goto 4, 3) := by decide +kernel
theorem dX12_beginOne_81 : decode cX12_beginOne 81 = .ok (.iload_n 1, 1) := by decide +kernel
theorem dX12_beginOne_82 : decode cX12_beginOne 82 = .ok (.invokevirtual 184, 3) := by decide +kernel
theorem dX12_beginOne_85 : decode cX12_beginOne 85 = .ok (.aload_n 0, 1) := by decide +kernel
theorem dX12_beginOne_86 : decode cX12_beginOne 86 = .ok (.invokevirtual 198, 3) := by decide +kernel
theorem dX12_beginOne_89 : decode cX12_beginOne 89 = .ok (.aload_n 0, 1) := by decide +kernel
theorem dX12_beginOne_90 : decode cX12_beginOne 90 = .ok (.iconst 1, 1) := by decide +kernel
theorem dX12_beginOne_91 : decode cX12_beginOne 91 = .ok (.putfield 207, 3) := by decide +kernel
theorem dX12_beginOne_94 : decode cX12_beginOne 94 = .ok (.aload_n 0, 1) := by decide +kernel
theorem dX12_beginOne_95 : decode cX12_beginOne 95 = .ok (.bipush 7, 2) := by decide +kernel
theorem dX12_beginOne_97 : decode cX12_beginOne 97 = .ok (.invokevirtual 210, 3) := by decide +kernel
theorem dX12_beginOne_100 : decode cX12_beginOne 100 = .ok (.iconst 0, 1) := by decide +kernel
theorem dX12_beginOne_101 : decode cX12_beginOne 101 = .ok (.ireturn, 1) := by decide +kernel
theorem dX12_beginOne_102 : decode cX12_beginOne 102 = .ok (.aload_n 0, 1) := by decide +kernel
theorem dX12_beginOne_103 : decode cX12_beginOne 103 = .ok (.getfield 134, 3) := by decide +kernel
theorem dX12_beginOne_106 : decode cX12_beginOne 106 = .ok (.bipush 40, 2) := by decide +kernel
theorem dX12_beginOne_108 : decode cX12_beginOne 108 = .ok (.if_icmp .ne 10, 3) := by decide +kernel
theorem dX12_beginOne_111 : decode cX12_beginOne 111 = .ok (.aload_n 0, 1) := by decide +kernel
theorem dX12_beginOne_112 : decode cX12_beginOne 112 = .ok (.bipush 40, 2) := by decide +kernel
theorem dX12_beginOne_114 : decode cX12_beginOne 114 = .ok (.invokevirtual 213, 3) := by decide +kernel
theorem dX12_beginOne_117 : decode cX12_beginOne 117 = .ok (.ireturn, 1) := by decide +kernel
theorem dX12_beginOne_118 : decode cX12_beginOne 118 = .ok (.aload_n 0, 1) := by decide +kernel
theorem dX12_beginOne_119 : decode cX12_beginOne 119 = .ok (.getfield 134, 3) := by decide +kernel
theorem dX12_beginOne_122 : decode cX12_beginOne 122 = .ok (.bipush 45, 2) := by decide +kernel
theorem dX12_beginOne_124 : decode cX12_beginOne 124 = .ok (.if_icmp .ne 9, 3) := by decide +kernel
theorem dX12_beginOne_127 : decode cX12_beginOne 127 = .ok (.aload_n 0, 1) := by decide +kernel
theorem dX12_beginOne_128 : decode cX12_beginOne 128 = .ok (.iconst 5, 1) := by decide +kernel
theorem dX12_beginOne_129 : decode cX12_beginOne 129 = .ok (.invokevirtual 213, 3) := by decide +kernel
theorem dX12_beginOne_132 : decode cX12_beginOne 132 = .ok (.ireturn, 1) := by decide +kernel
theorem dX12_beginOne_133 : decode cX12_beginOne 133 = .ok (.aload_n 0, 1) := by decide +kernel
theorem dX12_beginOne_134 : decode cX12_beginOne 134 = .ok (.bipush 116, 2) := by decide +kernel
theorem dX12_beginOne_136 : decode cX12_beginOne 136 = .ok (.bipush 119, 2) := by decide +kernel
theorem dX12_beginOne_138 : decode cX12_beginOne 138 = .ok (.bipush 111, 2) := by decide +kernel
theorem dX12_beginOne_140 : decode cX12_beginOne 140 = .ok (.bipush 115, 2) := by decide +kernel
theorem dX12_beginOne_142 : decode cX12_beginOne 142 = .ok (.invokestatic 164, 3) := by decide +kernel
theorem dX12_beginOne_145 : decode cX12_beginOne 145 = .ok (.invokevirtual 216, 3) := by decide +kernel
theorem dX12_beginOne_148 : decode cX12_beginOne 148 = .ok (.ifCond .eq 9, 3) := by decide +kernel
theorem dX12_beginOne_151 : decode cX12_beginOne 151 = .ok (.aload_n 0, 1) := by decide +kernel
theorem dX12_beginOne_152 : decode cX12_beginOne 152 = .ok (.iconst 4, 1) := by decide +kernel
theorem dX12_beginOne_153 : decode cX12_beginOne 153 = .ok (.invokevirtual 213, 3) := by decide +kernel
theorem dX12_beginOne_156 : decode cX12_beginOne 156 = .ok (.ireturn, 1) := by decide +kernel
theorem dX12_beginOne_157 : decode cX12_beginOne 157 = .ok (.aload_n 0, 1) := by decide +kernel
theorem dX12_beginOne_158 : decode cX12_beginOne 158 = .ok (.bipush 111, 2) := by decide +kernel
theorem dX12_beginOne_160 : decode cX12_beginOne 160 = .ok (.bipush 117, 2) := by decide +kernel
theorem dX12_beginOne_162 : decode cX12_beginOne 162 = .ok (.bipush 116, 2) := by decide +kernel
theorem dX12_beginOne_164 : decode cX12_beginOne 164 = .ok (.invokestatic 160, 3) := by decide +kernel
theorem dX12_beginOne_167 : decode cX12_beginOne 167 = .ok (.invokevirtual 216, 3) := by decide +kernel
theorem dX12_beginOne_170 : decode cX12_beginOne 170 = .ok (.ifCond .eq 9, 3) := by decide +kernel
theorem dX12_beginOne_173 : decode cX12_beginOne 173 = .ok (.aload_n 0, 1) := by decide +kernel
theorem dX12_beginOne_174 : decode cX12_beginOne 174 = .ok (.iconst 2, 1) := by decide +kernel
theorem dX12_beginOne_175 : decode cX12_beginOne 175 = .ok (.invokevirtual 213, 3) := by decide +kernel
theorem dX12_beginOne_178 : decode cX12_beginOne 178 = .ok (.ireturn, 1) := by decide +kernel
theorem dX12_beginOne_179 : decode cX12_beginOne 179 = .ok (.aload_n 0, 1) := by decide +kernel
theorem dX12_beginOne_180 : decode cX12_beginOne 180 = .ok (.bipush 105, 2) := by decide +kernel
theorem dX12_beginOne_182 : decode cX12_beginOne 182 = .ok (.bipush 102, 2) := by decide +kernel
theorem dX12_beginOne_184 : decode cX12_beginOne 184 = .ok (.invokestatic 156, 3) := by decide +kernel
theorem dX12_beginOne_187 : decode cX12_beginOne 187 = .ok (.invokevirtual 216, 3) := by decide +kernel
theorem dX12_beginOne_190 : decode cX12_beginOne 190 = .ok (.ifCond .eq 10, 3) := by decide +kernel
theorem dX12_beginOne_193 : decode cX12_beginOne 193 = .ok (.aload_n 0, 1) := by decide +kernel
theorem dX12_beginOne_194 : decode cX12_beginOne 194 = .ok (.bipush 41, 2) := by decide +kernel
theorem dX12_beginOne_196 : decode cX12_beginOne 196 = .ok (.invokevirtual 213, 3) := by decide +kernel
theorem dX12_beginOne_199 : decode cX12_beginOne 199 = .ok (.ireturn, 1) := by decide +kernel
theorem dX12_beginOne_200 : decode cX12_beginOne 200 = .ok (.aload_n 0, 1) := by decide +kernel
theorem dX12_beginOne_201 : decode cX12_beginOne 201 = .ok (.bipush 110, 2) := by decide +kernel
theorem dX12_beginOne_203 : decode cX12_beginOne 203 = .ok (.bipush 111, 2) := by decide +kernel
theorem dX12_beginOne_205 : decode cX12_beginOne 205 = .ok (.bipush 116, 2) := by decide +kernel
theorem dX12_beginOne_207 : decode cX12_beginOne 207 = .ok (.invokestatic 160, 3) := by decide +kernel
theorem dX12_beginOne_210 : decode cX12_beginOne 210 = .ok (.invokevirtual 216, 3) := by decide +kernel
theorem dX12_beginOne_213 : decode cX12_beginOne 213 = .ok (.ifCond .eq 19, 3) := by decide +kernel
theorem dX12_beginOne_216 : decode cX12_beginOne 216 = .ok (.aload_n 0, 1) := by decide +kernel
theorem dX12_beginOne_217 : decode cX12_beginOne 217 = .ok (.invokevirtual 220, 3) := by decide +kernel
theorem dX12_beginOne_220 : decode cX12_beginOne 220 = .ok (.ifCond .eq 12, 3) := by decide +kernel
theorem dX12_beginOne_223 : decode cX12_beginOne 223 = .ok (.aload_n 0, 1) := by decide +kernel
theorem dX12_beginOne_224 : decode cX12_beginOne 224 = .ok (.bipush 20, 2) := by decide +kernel
theorem dX12_beginOne_226 : decode cX12_beginOne 226 = .ok (.invokevirtual 213, 3) := by decide +kernel
theorem dX12_beginOne_229 : decode cX12_beginOne 229 = .ok (.goto 4, 3) := by decide +kernel
theorem dX12_beginOne_232 : decode cX12_beginOne 232 = .ok (.iconst 1, 1) := by decide +kernel
theorem dX12_beginOne_233 : decode cX12_beginOne 233 = .ok (.ireturn, 1) := by decide +kernel
def Md_beginOne_82 (s0 : Int32) (s1 : Int32) (ν : Nm) : Option (Int32 × Nm) :=
  (Md_emit s1 s0 ν).bind fun v1 =>
  (Md_nextToken v1).bind fun v2 =>
  (Md_settle (7 : Int32) (si v2 313 18 (1 : Int32))).bind fun v3 =>
  some ((0 : Int32), v3)
set_option maxRecDepth 100000 in
set_option maxHeartbeats 4000000 in
theorem t_Md_beginOne_82 {g : GG} {d : Nat} (hd0 : 6 ≤ d) : ∀ (s0 : Int32) (s1 : Int32) (ν : Nm) (r : (Int32 × Nm)), Md_beginOne_82 s0 s1 ν = some r → Z g d (0, 0) mX12_beginOne 333 0 0 82 [(0, .ref 313)] [.int s0, .int s1, .ref 313] (zem ν) (zF g (some (.int r.1), zem r.2)) := by
  intro s0 s1 ν r h
  unfold Md_beginOne_82 at h
  obtain ⟨v1, he1, h⟩ := obind h
  refine y_Vv (M := mX12_beginOne) (Y := mX12_emit) (d2 := d - 1) (As := [.int s1, .int s0]) (st := []) dX12_beginOne_82 mlRX12_184 cv_X12_emit zk_313 (ct_Md_emit (dle (Nat.le_of_ble_eq_true rfl) hd0) he1) (dps (Nat.le_of_ble_eq_true rfl) hd0) rfl rfl (Nat.le_of_ble_eq_true rfl) ?_
  refine z_aload_n dX12_beginOne_85 0 rfl ?_
  obtain ⟨v2, he2, h⟩ := obind h
  refine y_Vv (M := mX12_beginOne) (Y := mX12_nextToken) (d2 := d - 1) (As := []) (st := []) dX12_beginOne_86 mlRX12_198 cv_X12_nextToken zk_313 (ct_Md_nextToken (dle (Nat.le_of_ble_eq_true rfl) hd0) he2) (dps (Nat.le_of_ble_eq_true rfl) hd0) rfl rfl (Nat.le_of_ble_eq_true rfl) ?_
  refine z_aload_n dX12_beginOne_89 0 rfl ?_
  refine z_iconst (M := mX12_beginOne) (v := 1) dX12_beginOne_90 rfl ?_
  refine y_putI dX12_beginOne_91 zk_313 flRX12_207 ⟨rfl, rfl⟩ ?_
  refine z_aload_n dX12_beginOne_94 0 rfl ?_
  refine z_bipush (M := mX12_beginOne) (v := 7) dX12_beginOne_95 rfl ?_
  obtain ⟨v3, he3, h⟩ := obind h
  refine y_Vv (M := mX12_beginOne) (Y := mX12_settle) (d2 := d - 1) (As := [.int (7 : Int32)]) (st := []) dX12_beginOne_97 mlRX12_210 cv_X12_settle zk_313 (ct_Md_settle (dle (Nat.le_of_ble_eq_true rfl) hd0) he3) (dps (Nat.le_of_ble_eq_true rfl) hd0) rfl rfl (Nat.le_of_ble_eq_true rfl) ?_
  refine z_iconst (M := mX12_beginOne) (v := 0) dX12_beginOne_100 rfl ?_
  cases h
  exact z_iret dX12_beginOne_101 rfl
def Md_beginOne_66 (x1 : Int32) (s0 : Int32) (ν : Nm) : Option (Int32 × Nm) :=
  (if ¬ (gi ν 313 9) = (1 : Int32) then
    Md_beginOne_82 x1 s0 ν
  else
    Md_beginOne_82 (gi ν 313 10) s0 ν)
set_option maxRecDepth 100000 in
set_option maxHeartbeats 4000000 in
theorem t_Md_beginOne_66 {g : GG} {d : Nat} (hd0 : 6 ≤ d) : ∀ (x1 : Int32) (s0 : Int32) (ν : Nm) (r : (Int32 × Nm)), Md_beginOne_66 x1 s0 ν = some r → Z g d (0, 0) mX12_beginOne 333 0 0 66 [(0, .ref 313), (1, .int x1)] [.int s0, .ref 313] (zem ν) (zF g (some (.int r.1), zem r.2)) := by
  intro x1 s0 ν r h
  unfold Md_beginOne_66 at h
  refine z_aload_n dX12_beginOne_66 0 rfl ?_
  refine y_getI dX12_beginOne_67 zk_313 flRX12_134 ?_
  refine z_iconst (M := mX12_beginOne) (v := 1) dX12_beginOne_70 rfl ?_
  refine z_icmp_ne 81 dX12_beginOne_71 rfl (fun hc1 => ?_) (fun hc1 => ?_)
  · replace h := oT hc1 h
    refine z_iload_n dX12_beginOne_81 1 rfl ?_
    refine z_lv (lv2 := [(0, .ref 313)]) [0] rfl ?_
    exact t_Md_beginOne_82 hd0  x1 s0 ν _ h
  · replace h := oFn hc1 h
    refine z_aload_n dX12_beginOne_74 0 rfl ?_
    refine y_getI dX12_beginOne_75 zk_313 flRX12_140 ?_
    refine z_goto 82 dX12_beginOne_78 rfl ?_
    refine z_lv (lv2 := [(0, .ref 313)]) [0] rfl ?_
    exact t_Md_beginOne_82 hd0  (gi ν 313 10) s0 ν _ h
def Md_beginOne_52 (x1 : Int32) (ν : Nm) : Option (Int32 × Nm) :=
  (if ¬ (gi ν 313 9) = (1 : Int32) then
    Md_beginOne_66 x1 (1 : Int32) ν
  else
    Md_beginOne_66 x1 (0 : Int32) ν)
set_option maxRecDepth 100000 in
set_option maxHeartbeats 4000000 in
theorem t_Md_beginOne_52 {g : GG} {d : Nat} (hd0 : 6 ≤ d) : ∀ (x1 : Int32) (ν : Nm) (r : (Int32 × Nm)), Md_beginOne_52 x1 ν = some r → Z g d (0, 0) mX12_beginOne 333 0 0 52 [(0, .ref 313), (1, .int x1)] [] (zem ν) (zF g (some (.int r.1), zem r.2)) := by
  intro x1 ν r h
  unfold Md_beginOne_52 at h
  refine z_aload_n dX12_beginOne_52 0 rfl ?_
  refine z_aload_n dX12_beginOne_53 0 rfl ?_
  refine y_getI dX12_beginOne_54 zk_313 flRX12_134 ?_
  refine z_iconst (M := mX12_beginOne) (v := 1) dX12_beginOne_57 rfl ?_
  refine z_icmp_ne 65 dX12_beginOne_58 rfl (fun hc1 => ?_) (fun hc1 => ?_)
  · replace h := oT hc1 h
    refine z_iconst (M := mX12_beginOne) (v := 1) dX12_beginOne_65 rfl ?_
    exact t_Md_beginOne_66 hd0  x1 (1 : Int32) ν _ h
  · replace h := oFn hc1 h
    refine z_iconst (M := mX12_beginOne) (v := 0) dX12_beginOne_61 rfl ?_
    refine z_goto 66 dX12_beginOne_62 rfl ?_
    exact t_Md_beginOne_66 hd0  x1 (0 : Int32) ν _ h
def Md_beginOne_40 (x1 : Int32) (ν : Nm) : Option (Int32 × Nm) :=
  (if (gi ν 313 9) = (1 : Int32) then
    Md_beginOne_52 x1 ν
  else
    (if x1 < 0 then
      (if ¬ (gi ν 313 9) = (40 : Int32) then
        (if ¬ (gi ν 313 9) = (45 : Int32) then
          (Md_w4 (116 : Int32) (119 : Int32) (111 : Int32) (115 : Int32)).bind fun v5 =>
          (Md_isWord ν v5).bind fun v6 =>
          (if (b2i v6) = 0 then
            (Md_w3 (111 : Int32) (117 : Int32) (116 : Int32)).bind fun v8 =>
            (Md_isWord ν v8).bind fun v9 =>
            (if (b2i v9) = 0 then
              (Md_w2 (105 : Int32) (102 : Int32)).bind fun v11 =>
              (Md_isWord ν v11).bind fun v12 =>
              (if (b2i v12) = 0 then
                (Md_w3 (110 : Int32) (111 : Int32) (116 : Int32)).bind fun v14 =>
                (Md_isWord ν v14).bind fun v15 =>
                (if (b2i v15) = 0 then
                  some ((1 : Int32), ν)
                else
                  (Md_isAskAhead ν).bind fun v17 =>
                  (if (b2i v17) = 0 then
                    some ((1 : Int32), ν)
                  else
                    (Md_opened (20 : Int32) ν).bind fun v19 =>
                    some (v19.1, v19.2)))
              else
                (Md_opened (41 : Int32) ν).bind fun v20 =>
                some (v20.1, v20.2))
            else
              (Md_opened (2 : Int32) ν).bind fun v21 =>
              some (v21.1, v21.2))
          else
            (Md_opened (4 : Int32) ν).bind fun v22 =>
            some (v22.1, v22.2))
        else
          (Md_opened (5 : Int32) ν).bind fun v23 =>
          some (v23.1, v23.2))
      else
        (Md_opened (40 : Int32) ν).bind fun v24 =>
        some (v24.1, v24.2))
    else
      Md_beginOne_52 x1 ν))
set_option maxRecDepth 100000 in
set_option maxHeartbeats 4000000 in
theorem t_Md_beginOne_40 {g : GG} {d : Nat} (hd0 : 6 ≤ d) : ∀ (x1 : Int32) (ν : Nm) (r : (Int32 × Nm)), Md_beginOne_40 x1 ν = some r → Z g d (0, 0) mX12_beginOne 333 0 0 40 [(0, .ref 313), (1, .int x1)] [] (zem ν) (zF g (some (.int r.1), zem r.2)) := by
  intro x1 ν r h
  unfold Md_beginOne_40 at h
  refine z_aload_n dX12_beginOne_40 0 rfl ?_
  refine y_getI dX12_beginOne_41 zk_313 flRX12_134 ?_
  refine z_iconst (M := mX12_beginOne) (v := 1) dX12_beginOne_44 rfl ?_
  refine z_icmp_eq 52 dX12_beginOne_45 rfl (fun hc1 => ?_) (fun hc1 => ?_)
  · replace h := oT hc1 h
    exact t_Md_beginOne_52 hd0  x1 ν _ h
  · replace h := oF hc1 h
    refine z_iload_n dX12_beginOne_48 1 rfl ?_
    refine z_if_lt 102 dX12_beginOne_49 rfl (fun hc2 => ?_) (fun hc2 => ?_)
    · replace h := oT hc2 h
      refine z_aload_n dX12_beginOne_102 0 rfl ?_
      refine y_getI dX12_beginOne_103 zk_313 flRX12_134 ?_
      refine z_bipush (M := mX12_beginOne) (v := 40) dX12_beginOne_106 rfl ?_
      refine z_icmp_ne 118 dX12_beginOne_108 rfl (fun hc3 => ?_) (fun hc3 => ?_)
      · replace h := oT hc3 h
        refine z_aload_n dX12_beginOne_118 0 rfl ?_
        refine y_getI dX12_beginOne_119 zk_313 flRX12_134 ?_
        refine z_bipush (M := mX12_beginOne) (v := 45) dX12_beginOne_122 rfl ?_
        refine z_icmp_ne 133 dX12_beginOne_124 rfl (fun hc4 => ?_) (fun hc4 => ?_)
        · replace h := oT hc4 h
          refine z_aload_n dX12_beginOne_133 0 rfl ?_
          refine z_bipush (M := mX12_beginOne) (v := 116) dX12_beginOne_134 rfl ?_
          refine z_bipush (M := mX12_beginOne) (v := 119) dX12_beginOne_136 rfl ?_
          refine z_bipush (M := mX12_beginOne) (v := 111) dX12_beginOne_138 rfl ?_
          refine z_bipush (M := mX12_beginOne) (v := 115) dX12_beginOne_140 rfl ?_
          obtain ⟨v5, he5, h⟩ := obind h
          refine y_Sl (M := mX12_beginOne) (Y := mX12_w4) (d2 := d - 1) (As := [.int (116 : Int32), .int (119 : Int32), .int (111 : Int32), .int (115 : Int32)]) (st := [.ref 313]) dX12_beginOne_142 mlRX12_164 cv_X12_w4 (ct_Md_w4 (dle (Nat.le_of_ble_eq_true rfl) hd0) he5) (dps (Nat.le_of_ble_eq_true rfl) hd0) rfl rfl (Nat.le_of_ble_eq_true rfl) ?_
          obtain ⟨v6, he6, h⟩ := obind h
          refine y_Vi (M := mX12_beginOne) (Y := mX12_isWord) (d2 := d - 1) (As := [.long v5]) (st := []) dX12_beginOne_145 mlRX12_216 cv_X12_isWord zk_313 (ct_Md_isWord (dle (Nat.le_of_ble_eq_true rfl) hd0) he6) (dps (Nat.le_of_ble_eq_true rfl) hd0) rfl rfl (Nat.le_of_ble_eq_true rfl) ?_
          refine z_if_eq 157 dX12_beginOne_148 rfl (fun hc7 => ?_) (fun hc7 => ?_)
          · replace h := oT hc7 h
            refine z_aload_n dX12_beginOne_157 0 rfl ?_
            refine z_bipush (M := mX12_beginOne) (v := 111) dX12_beginOne_158 rfl ?_
            refine z_bipush (M := mX12_beginOne) (v := 117) dX12_beginOne_160 rfl ?_
            refine z_bipush (M := mX12_beginOne) (v := 116) dX12_beginOne_162 rfl ?_
            obtain ⟨v8, he8, h⟩ := obind h
            refine y_Sl (M := mX12_beginOne) (Y := mX12_w3) (d2 := d - 1) (As := [.int (111 : Int32), .int (117 : Int32), .int (116 : Int32)]) (st := [.ref 313]) dX12_beginOne_164 mlRX12_160 cv_X12_w3 (ct_Md_w3 (dle (Nat.le_of_ble_eq_true rfl) hd0) he8) (dps (Nat.le_of_ble_eq_true rfl) hd0) rfl rfl (Nat.le_of_ble_eq_true rfl) ?_
            obtain ⟨v9, he9, h⟩ := obind h
            refine y_Vi (M := mX12_beginOne) (Y := mX12_isWord) (d2 := d - 1) (As := [.long v8]) (st := []) dX12_beginOne_167 mlRX12_216 cv_X12_isWord zk_313 (ct_Md_isWord (dle (Nat.le_of_ble_eq_true rfl) hd0) he9) (dps (Nat.le_of_ble_eq_true rfl) hd0) rfl rfl (Nat.le_of_ble_eq_true rfl) ?_
            refine z_if_eq 179 dX12_beginOne_170 rfl (fun hc10 => ?_) (fun hc10 => ?_)
            · replace h := oT hc10 h
              refine z_aload_n dX12_beginOne_179 0 rfl ?_
              refine z_bipush (M := mX12_beginOne) (v := 105) dX12_beginOne_180 rfl ?_
              refine z_bipush (M := mX12_beginOne) (v := 102) dX12_beginOne_182 rfl ?_
              obtain ⟨v11, he11, h⟩ := obind h
              refine y_Sl (M := mX12_beginOne) (Y := mX12_w2) (d2 := d - 1) (As := [.int (105 : Int32), .int (102 : Int32)]) (st := [.ref 313]) dX12_beginOne_184 mlRX12_156 cv_X12_w2 (ct_Md_w2 (dle (Nat.le_of_ble_eq_true rfl) hd0) he11) (dps (Nat.le_of_ble_eq_true rfl) hd0) rfl rfl (Nat.le_of_ble_eq_true rfl) ?_
              obtain ⟨v12, he12, h⟩ := obind h
              refine y_Vi (M := mX12_beginOne) (Y := mX12_isWord) (d2 := d - 1) (As := [.long v11]) (st := []) dX12_beginOne_187 mlRX12_216 cv_X12_isWord zk_313 (ct_Md_isWord (dle (Nat.le_of_ble_eq_true rfl) hd0) he12) (dps (Nat.le_of_ble_eq_true rfl) hd0) rfl rfl (Nat.le_of_ble_eq_true rfl) ?_
              refine z_if_eq 200 dX12_beginOne_190 rfl (fun hc13 => ?_) (fun hc13 => ?_)
              · replace h := oT hc13 h
                refine z_aload_n dX12_beginOne_200 0 rfl ?_
                refine z_bipush (M := mX12_beginOne) (v := 110) dX12_beginOne_201 rfl ?_
                refine z_bipush (M := mX12_beginOne) (v := 111) dX12_beginOne_203 rfl ?_
                refine z_bipush (M := mX12_beginOne) (v := 116) dX12_beginOne_205 rfl ?_
                obtain ⟨v14, he14, h⟩ := obind h
                refine y_Sl (M := mX12_beginOne) (Y := mX12_w3) (d2 := d - 1) (As := [.int (110 : Int32), .int (111 : Int32), .int (116 : Int32)]) (st := [.ref 313]) dX12_beginOne_207 mlRX12_160 cv_X12_w3 (ct_Md_w3 (dle (Nat.le_of_ble_eq_true rfl) hd0) he14) (dps (Nat.le_of_ble_eq_true rfl) hd0) rfl rfl (Nat.le_of_ble_eq_true rfl) ?_
                obtain ⟨v15, he15, h⟩ := obind h
                refine y_Vi (M := mX12_beginOne) (Y := mX12_isWord) (d2 := d - 1) (As := [.long v14]) (st := []) dX12_beginOne_210 mlRX12_216 cv_X12_isWord zk_313 (ct_Md_isWord (dle (Nat.le_of_ble_eq_true rfl) hd0) he15) (dps (Nat.le_of_ble_eq_true rfl) hd0) rfl rfl (Nat.le_of_ble_eq_true rfl) ?_
                refine z_if_eq 232 dX12_beginOne_213 rfl (fun hc16 => ?_) (fun hc16 => ?_)
                · replace h := oT hc16 h
                  refine z_iconst (M := mX12_beginOne) (v := 1) dX12_beginOne_232 rfl ?_
                  cases h
                  exact z_iret dX12_beginOne_233 rfl
                · replace h := oF hc16 h
                  refine z_aload_n dX12_beginOne_216 0 rfl ?_
                  obtain ⟨v17, he17, h⟩ := obind h
                  refine y_Vi (M := mX12_beginOne) (Y := mX12_isAskAhead) (d2 := d - 1) (As := []) (st := []) dX12_beginOne_217 mlRX12_220 cv_X12_isAskAhead zk_313 (ct_Md_isAskAhead (dle (Nat.le_of_ble_eq_true rfl) hd0) he17) (dps (Nat.le_of_ble_eq_true rfl) hd0) rfl rfl (Nat.le_of_ble_eq_true rfl) ?_
                  refine z_if_eq 232 dX12_beginOne_220 rfl (fun hc18 => ?_) (fun hc18 => ?_)
                  · replace h := oT hc18 h
                    refine z_iconst (M := mX12_beginOne) (v := 1) dX12_beginOne_232 rfl ?_
                    cases h
                    exact z_iret dX12_beginOne_233 rfl
                  · replace h := oF hc18 h
                    refine z_aload_n dX12_beginOne_223 0 rfl ?_
                    refine z_bipush (M := mX12_beginOne) (v := 20) dX12_beginOne_224 rfl ?_
                    obtain ⟨v19, he19, h⟩ := obind h
                    refine y_Vi (M := mX12_beginOne) (Y := mX12_opened) (d2 := d - 1) (As := [.int (20 : Int32)]) (st := []) dX12_beginOne_226 mlRX12_213 cv_X12_opened zk_313 (ct_Md_opened (dle (Nat.le_of_ble_eq_true rfl) hd0) he19) (dps (Nat.le_of_ble_eq_true rfl) hd0) rfl rfl (Nat.le_of_ble_eq_true rfl) ?_
                    refine z_goto 233 dX12_beginOne_229 rfl ?_
                    cases h
                    exact z_iret dX12_beginOne_233 rfl
              · replace h := oF hc13 h
                refine z_aload_n dX12_beginOne_193 0 rfl ?_
                refine z_bipush (M := mX12_beginOne) (v := 41) dX12_beginOne_194 rfl ?_
                obtain ⟨v20, he20, h⟩ := obind h
                refine y_Vi (M := mX12_beginOne) (Y := mX12_opened) (d2 := d - 1) (As := [.int (41 : Int32)]) (st := []) dX12_beginOne_196 mlRX12_213 cv_X12_opened zk_313 (ct_Md_opened (dle (Nat.le_of_ble_eq_true rfl) hd0) he20) (dps (Nat.le_of_ble_eq_true rfl) hd0) rfl rfl (Nat.le_of_ble_eq_true rfl) ?_
                cases h
                exact z_iret dX12_beginOne_199 rfl
            · replace h := oF hc10 h
              refine z_aload_n dX12_beginOne_173 0 rfl ?_
              refine z_iconst (M := mX12_beginOne) (v := 2) dX12_beginOne_174 rfl ?_
              obtain ⟨v21, he21, h⟩ := obind h
              refine y_Vi (M := mX12_beginOne) (Y := mX12_opened) (d2 := d - 1) (As := [.int (2 : Int32)]) (st := []) dX12_beginOne_175 mlRX12_213 cv_X12_opened zk_313 (ct_Md_opened (dle (Nat.le_of_ble_eq_true rfl) hd0) he21) (dps (Nat.le_of_ble_eq_true rfl) hd0) rfl rfl (Nat.le_of_ble_eq_true rfl) ?_
              cases h
              exact z_iret dX12_beginOne_178 rfl
          · replace h := oF hc7 h
            refine z_aload_n dX12_beginOne_151 0 rfl ?_
            refine z_iconst (M := mX12_beginOne) (v := 4) dX12_beginOne_152 rfl ?_
            obtain ⟨v22, he22, h⟩ := obind h
            refine y_Vi (M := mX12_beginOne) (Y := mX12_opened) (d2 := d - 1) (As := [.int (4 : Int32)]) (st := []) dX12_beginOne_153 mlRX12_213 cv_X12_opened zk_313 (ct_Md_opened (dle (Nat.le_of_ble_eq_true rfl) hd0) he22) (dps (Nat.le_of_ble_eq_true rfl) hd0) rfl rfl (Nat.le_of_ble_eq_true rfl) ?_
            cases h
            exact z_iret dX12_beginOne_156 rfl
        · replace h := oFn hc4 h
          refine z_aload_n dX12_beginOne_127 0 rfl ?_
          refine z_iconst (M := mX12_beginOne) (v := 5) dX12_beginOne_128 rfl ?_
          obtain ⟨v23, he23, h⟩ := obind h
          refine y_Vi (M := mX12_beginOne) (Y := mX12_opened) (d2 := d - 1) (As := [.int (5 : Int32)]) (st := []) dX12_beginOne_129 mlRX12_213 cv_X12_opened zk_313 (ct_Md_opened (dle (Nat.le_of_ble_eq_true rfl) hd0) he23) (dps (Nat.le_of_ble_eq_true rfl) hd0) rfl rfl (Nat.le_of_ble_eq_true rfl) ?_
          cases h
          exact z_iret dX12_beginOne_132 rfl
      · replace h := oFn hc3 h
        refine z_aload_n dX12_beginOne_111 0 rfl ?_
        refine z_bipush (M := mX12_beginOne) (v := 40) dX12_beginOne_112 rfl ?_
        obtain ⟨v24, he24, h⟩ := obind h
        refine y_Vi (M := mX12_beginOne) (Y := mX12_opened) (d2 := d - 1) (As := [.int (40 : Int32)]) (st := []) dX12_beginOne_114 mlRX12_213 cv_X12_opened zk_313 (ct_Md_opened (dle (Nat.le_of_ble_eq_true rfl) hd0) he24) (dps (Nat.le_of_ble_eq_true rfl) hd0) rfl rfl (Nat.le_of_ble_eq_true rfl) ?_
        cases h
        exact z_iret dX12_beginOne_117 rfl
    · replace h := oF hc2 h
      exact t_Md_beginOne_52 hd0  x1 ν _ h
def Md_beginOne_20 (ν : Nm) : Option (Int32 × Nm) :=
  (Md_nameOf ν).bind fun v1 =>
  (if ¬ v1 = (6 : Int32) then
    Md_beginOne_40 v1 ν
  else
    (if (gi ν 313 14) = 0 then
      Md_beginOne_40 v1 ν
    else
      some ((5 : Int32), ν)))
set_option maxRecDepth 100000 in
set_option maxHeartbeats 4000000 in
theorem t_Md_beginOne_20 {g : GG} {d : Nat} (hd0 : 6 ≤ d) : ∀ (ν : Nm) (r : (Int32 × Nm)), Md_beginOne_20 ν = some r → Z g d (0, 0) mX12_beginOne 333 0 0 20 [(0, .ref 313)] [] (zem ν) (zF g (some (.int r.1), zem r.2)) := by
  intro ν r h
  unfold Md_beginOne_20 at h
  refine z_aload_n dX12_beginOne_20 0 rfl ?_
  obtain ⟨v1, he1, h⟩ := obind h
  refine y_Vi (M := mX12_beginOne) (Y := mX12_nameOf) (d2 := d - 1) (As := []) (st := []) dX12_beginOne_21 mlRX12_201 cv_X12_nameOf zk_313 (ct_Md_nameOf (dle (Nat.le_of_ble_eq_true rfl) hd0) he1) (dps (Nat.le_of_ble_eq_true rfl) hd0) rfl rfl (Nat.le_of_ble_eq_true rfl) ?_
  refine z_istore_n (M := mX12_beginOne) (lv2 := [(1, .int v1), (0, .ref 313)]) dX12_beginOne_24 (Nat.le_of_ble_eq_true rfl) rfl ?_
  refine z_iload_n dX12_beginOne_25 0 rfl ?_
  refine z_bipush (M := mX12_beginOne) (v := 6) dX12_beginOne_26 rfl ?_
  refine z_icmp_ne 40 dX12_beginOne_28 rfl (fun hc2 => ?_) (fun hc2 => ?_)
  · replace h := oT hc2 h
    refine z_lv (lv2 := [(0, .ref 313), (1, .int v1)]) [1, 0] rfl ?_
    exact t_Md_beginOne_40 hd0  v1 ν _ h
  · replace h := oFn hc2 h
    refine z_aload_n dX12_beginOne_31 1 rfl ?_
    refine y_getI dX12_beginOne_32 zk_313 flRX12_204 ?_
    refine z_if_eq 40 dX12_beginOne_35 rfl (fun hc3 => ?_) (fun hc3 => ?_)
    · replace h := oT hc3 h
      refine z_lv (lv2 := [(0, .ref 313), (1, .int v1)]) [1, 0] rfl ?_
      exact t_Md_beginOne_40 hd0  v1 ν _ h
    · replace h := oF hc3 h
      refine z_iconst (M := mX12_beginOne) (v := 5) dX12_beginOne_38 rfl ?_
      cases h
      exact z_iret dX12_beginOne_39 rfl
def Md_beginOne (ν : Nm) : Option (Int32 × Nm) :=
  (if ¬ (gi ν 313 9) = (1 : Int32) then
    Md_beginOne_20 ν
  else
    (if (gi ν 313 10) ≤ (9999 : Int32) then
      Md_beginOne_20 ν
    else
      some ((2 : Int32), ν)))
set_option maxRecDepth 100000 in
set_option maxHeartbeats 4000000 in
theorem t_Md_beginOne {g : GG} {d : Nat} (hd0 : 6 ≤ d) : ∀ (ν : Nm) (r : (Int32 × Nm)), Md_beginOne ν = some r → Z g d (0, 0) mX12_beginOne 333 0 0 0 [(0, .ref 313)] [] (zem ν) (zF g (some (.int r.1), zem r.2)) := by
  intro ν r h
  unfold Md_beginOne at h
  refine z_aload_n dX12_beginOne_0 0 rfl ?_
  refine y_getI dX12_beginOne_1 zk_313 flRX12_134 ?_
  refine z_iconst (M := mX12_beginOne) (v := 1) dX12_beginOne_4 rfl ?_
  refine z_icmp_ne 20 dX12_beginOne_5 rfl (fun hc1 => ?_) (fun hc1 => ?_)
  · replace h := oT hc1 h
    exact t_Md_beginOne_20 hd0  ν _ h
  · replace h := oFn hc1 h
    refine z_aload_n dX12_beginOne_8 0 rfl ?_
    refine y_getI dX12_beginOne_9 zk_313 flRX12_140 ?_
    refine z_sipush (M := mX12_beginOne) (v := 9999) dX12_beginOne_12 rfl ?_
    refine z_icmp_le 20 dX12_beginOne_15 rfl (fun hc2 => ?_) (fun hc2 => ?_)
    · replace h := oT hc2 h
      exact t_Md_beginOne_20 hd0  ν _ h
    · replace h := oF hc2 h
      refine z_iconst (M := mX12_beginOne) (v := 2) dX12_beginOne_18 rfl ?_
      cases h
      exact z_iret dX12_beginOne_19 rfl
theorem ct_Md_beginOne {g : GG} {d : Nat} {ν : Nm} {r : (Int32 × Nm)} (hd0 : 6 ≤ d)  (h : Md_beginOne ν = some r) : Ct g d mX12_beginOne [.ref 313] (zem ν) (some (.int r.1), zem r.2) := y_entry in_X12_beginOne (Nat.le_of_ble_eq_true rfl) rfl (t_Md_beginOne hd0 ν r h)
-- FuseMinutesModel.compareOf()I
theorem dX12_compareOf_0 : decode cX12_compareOf 0 = .ok (.aload_n 0, 1) := by decide +kernel
theorem dX12_compareOf_1 : decode cX12_compareOf 1 = .ok (.getfield 134, 3) := by decide +kernel
theorem dX12_compareOf_4 : decode cX12_compareOf 4 = .ok (.bipush 60, 2) := by decide +kernel
theorem dX12_compareOf_6 : decode cX12_compareOf 6 = .ok (.if_icmp .ne 8, 3) := by decide +kernel
theorem dX12_compareOf_9 : decode cX12_compareOf 9 = .ok (.bipush 10, 2) := by decide +kernel
theorem dX12_compareOf_11 : decode cX12_compareOf 11 = .ok (.goto 72, 3) := by decide +kernel
theorem dX12_compareOf_14 : decode cX12_compareOf 14 = .ok (.aload_n 0, 1) := by decide +kernel
theorem dX12_compareOf_15 : decode cX12_compareOf 15 = .ok (.getfield 134, 3) := by decide +kernel
theorem dX12_compareOf_18 : decode cX12_compareOf 18 = .ok (.iconst 4, 1) := by decide +kernel
theorem dX12_compareOf_19 : decode cX12_compareOf 19 = .ok (.if_icmp .ne 8, 3) := by decide +kernel
theorem dX12_compareOf_22 : decode cX12_compareOf 22 = .ok (.bipush 11, 2) := by decide +kernel
theorem dX12_compareOf_24 : decode cX12_compareOf 24 = .ok (.goto 59, 3) := by decide +kernel
theorem dX12_compareOf_27 : decode cX12_compareOf 27 = .ok (.aload_n 0, 1) := by decide +kernel
theorem dX12_compareOf_28 : decode cX12_compareOf 28 = .ok (.getfield 134, 3) := by decide +kernel
theorem dX12_compareOf_31 : decode cX12_compareOf 31 = .ok (.bipush 62, 2) := by decide +kernel
theorem dX12_compareOf_33 : decode cX12_compareOf 33 = .ok (.if_icmp .ne 8, 3) := by decide +kernel
theorem dX12_compareOf_36 : decode cX12_compareOf 36 = .ok (.bipush 12, 2) := by decide +kernel
theorem dX12_compareOf_38 : decode cX12_compareOf 38 = .ok (.goto 45, 3) := by decide +kernel
theorem dX12_compareOf_41 : decode cX12_compareOf 41 = .ok (.aload_n 0, 1) := by decide +kernel
theorem dX12_compareOf_42 : decode cX12_compareOf 42 = .ok (.getfield 134, 3) := by decide +kernel
theorem dX12_compareOf_45 : decode cX12_compareOf 45 = .ok (.iconst 5, 1) := by decide +kernel
theorem dX12_compareOf_46 : decode cX12_compareOf 46 = .ok (.if_icmp .ne 8, 3) := by decide +kernel
theorem dX12_compareOf_49 : decode cX12_compareOf 49 = .ok (.bipush 13, 2) := by decide +kernel
theorem dX12_compareOf_51 : decode cX12_compareOf 51 = .ok (.goto 32, 3) := by decide +kernel
theorem dX12_compareOf_54 : decode cX12_compareOf 54 = .ok (.aload_n 0, 1) := by decide +kernel
theorem dX12_compareOf_55 : decode cX12_compareOf 55 = .ok (.getfield 134, 3) := by decide +kernel
theorem dX12_compareOf_58 : decode cX12_compareOf 58 = .ok (.bipush 61, 2) := by decide +kernel
theorem dX12_compareOf_60 : decode cX12_compareOf 60 = .ok (.if_icmp .ne 8, 3) := by decide +kernel
theorem dX12_compareOf_63 : decode cX12_compareOf 63 = .ok (.bipush 14, 2) := by decide +kernel
theorem dX12_compareOf_65 : decode cX12_compareOf 65 = .ok (.goto 18, 3) := by decide +kernel
theorem dX12_compareOf_68 : decode cX12_compareOf 68 = .ok (.aload_n 0, 1) := by decide +kernel
theorem dX12_compareOf_69 : decode cX12_compareOf 69 = .ok (.getfield 134, 3) := by decide +kernel
theorem dX12_compareOf_72 : decode cX12_compareOf 72 = .ok (.bipush 35, 2) := by decide +kernel
theorem dX12_compareOf_74 : decode cX12_compareOf 74 = .ok (.if_icmp .ne 8, 3) := by decide +kernel
theorem dX12_compareOf_77 : decode cX12_compareOf 77 = .ok (.bipush 15, 2) := by decide +kernel
theorem dX12_compareOf_79 : decode cX12_compareOf 79 = .ok (.goto 4, 3) := by decide +kernel
theorem dX12_compareOf_82 : decode cX12_compareOf 82 = .ok (.iconst (-1), 1) := by decide +kernel
theorem dX12_compareOf_83 : decode cX12_compareOf 83 = .ok (.ireturn, 1) := by decide +kernel
def Md_compareOf (ν : Nm) : Option Int32 :=
  (if ¬ (gi ν 313 9) = (60 : Int32) then
    (if ¬ (gi ν 313 9) = (4 : Int32) then
      (if ¬ (gi ν 313 9) = (62 : Int32) then
        (if ¬ (gi ν 313 9) = (5 : Int32) then
          (if ¬ (gi ν 313 9) = (61 : Int32) then
            (if ¬ (gi ν 313 9) = (35 : Int32) then
              some (-1 : Int32)
            else
              some (15 : Int32))
          else
            some (14 : Int32))
        else
          some (13 : Int32))
      else
        some (12 : Int32))
    else
      some (11 : Int32))
  else
    some (10 : Int32))
set_option maxRecDepth 100000 in
set_option maxHeartbeats 4000000 in
theorem t_Md_compareOf {g : GG} {d : Nat} {ν : Nm} (hd0 : 1 ≤ d) : ∀ (r : Int32), Md_compareOf ν = some r → Z g d (0, 0) mX12_compareOf 333 0 0 0 [(0, .ref 313)] [] (zem ν) (zF g (some (.int r), zem ν)) := by
  intro r h
  unfold Md_compareOf at h
  refine z_aload_n dX12_compareOf_0 0 rfl ?_
  refine y_getI dX12_compareOf_1 zk_313 flRX12_134 ?_
  refine z_bipush (M := mX12_compareOf) (v := 60) dX12_compareOf_4 rfl ?_
  refine z_icmp_ne 14 dX12_compareOf_6 rfl (fun hc1 => ?_) (fun hc1 => ?_)
  · replace h := oT hc1 h
    refine z_aload_n dX12_compareOf_14 0 rfl ?_
    refine y_getI dX12_compareOf_15 zk_313 flRX12_134 ?_
    refine z_iconst (M := mX12_compareOf) (v := 4) dX12_compareOf_18 rfl ?_
    refine z_icmp_ne 27 dX12_compareOf_19 rfl (fun hc2 => ?_) (fun hc2 => ?_)
    · replace h := oT hc2 h
      refine z_aload_n dX12_compareOf_27 0 rfl ?_
      refine y_getI dX12_compareOf_28 zk_313 flRX12_134 ?_
      refine z_bipush (M := mX12_compareOf) (v := 62) dX12_compareOf_31 rfl ?_
      refine z_icmp_ne 41 dX12_compareOf_33 rfl (fun hc3 => ?_) (fun hc3 => ?_)
      · replace h := oT hc3 h
        refine z_aload_n dX12_compareOf_41 0 rfl ?_
        refine y_getI dX12_compareOf_42 zk_313 flRX12_134 ?_
        refine z_iconst (M := mX12_compareOf) (v := 5) dX12_compareOf_45 rfl ?_
        refine z_icmp_ne 54 dX12_compareOf_46 rfl (fun hc4 => ?_) (fun hc4 => ?_)
        · replace h := oT hc4 h
          refine z_aload_n dX12_compareOf_54 0 rfl ?_
          refine y_getI dX12_compareOf_55 zk_313 flRX12_134 ?_
          refine z_bipush (M := mX12_compareOf) (v := 61) dX12_compareOf_58 rfl ?_
          refine z_icmp_ne 68 dX12_compareOf_60 rfl (fun hc5 => ?_) (fun hc5 => ?_)
          · replace h := oT hc5 h
            refine z_aload_n dX12_compareOf_68 0 rfl ?_
            refine y_getI dX12_compareOf_69 zk_313 flRX12_134 ?_
            refine z_bipush (M := mX12_compareOf) (v := 35) dX12_compareOf_72 rfl ?_
            refine z_icmp_ne 82 dX12_compareOf_74 rfl (fun hc6 => ?_) (fun hc6 => ?_)
            · replace h := oT hc6 h
              refine z_iconst (M := mX12_compareOf) (v := -1) dX12_compareOf_82 rfl ?_
              cases h
              exact z_iret dX12_compareOf_83 rfl
            · replace h := oFn hc6 h
              refine z_bipush (M := mX12_compareOf) (v := 15) dX12_compareOf_77 rfl ?_
              refine z_goto 83 dX12_compareOf_79 rfl ?_
              cases h
              exact z_iret dX12_compareOf_83 rfl
          · replace h := oFn hc5 h
            refine z_bipush (M := mX12_compareOf) (v := 14) dX12_compareOf_63 rfl ?_
            refine z_goto 83 dX12_compareOf_65 rfl ?_
            cases h
            exact z_iret dX12_compareOf_83 rfl
        · replace h := oFn hc4 h
          refine z_bipush (M := mX12_compareOf) (v := 13) dX12_compareOf_49 rfl ?_
          refine z_goto 83 dX12_compareOf_51 rfl ?_
          cases h
          exact z_iret dX12_compareOf_83 rfl
      · replace h := oFn hc3 h
        refine z_bipush (M := mX12_compareOf) (v := 12) dX12_compareOf_36 rfl ?_
        refine z_goto 83 dX12_compareOf_38 rfl ?_
        cases h
        exact z_iret dX12_compareOf_83 rfl
    · replace h := oFn hc2 h
      refine z_bipush (M := mX12_compareOf) (v := 11) dX12_compareOf_22 rfl ?_
      refine z_goto 83 dX12_compareOf_24 rfl ?_
      cases h
      exact z_iret dX12_compareOf_83 rfl
  · replace h := oFn hc1 h
    refine z_bipush (M := mX12_compareOf) (v := 10) dX12_compareOf_9 rfl ?_
    refine z_goto 83 dX12_compareOf_11 rfl ?_
    cases h
    exact z_iret dX12_compareOf_83 rfl
theorem ct_Md_compareOf {g : GG} {d : Nat} {ν : Nm} {r : Int32} (hd0 : 1 ≤ d)  (h : Md_compareOf ν = some r) : Ct g d mX12_compareOf [.ref 313] (zem ν) (some (.int r), zem ν) := y_entry in_X12_compareOf (Nat.le_of_ble_eq_true rfl) rfl (t_Md_compareOf hd0 r h)
-- FuseMinutesModel.isCompared()Z
theorem dX12_isCompared_0 : decode cX12_isCompared 0 = .ok (.aload_n 0, 1) := by decide +kernel
theorem dX12_isCompared_1 : decode cX12_isCompared 1 = .ok (.getfield 178, 3) := by decide +kernel
theorem dX12_isCompared_4 : decode cX12_isCompared 4 = .ok (.iconst 1, 1) := by decide +kernel
theorem dX12_isCompared_5 : decode cX12_isCompared 5 = .ok (.isub, 1) := by decide +kernel
theorem dX12_isCompared_6 : decode cX12_isCompared 6 = .ok (.istore_n 1, 1) := by decide +kernel
theorem dX12_isCompared_7 : decode cX12_isCompared 7 = .ok (.iload_n 1, 1) := by decide +kernel
theorem dX12_isCompared_8 : decode cX12_isCompared 8 = .ok (.ifCond .lt 22, 3) := by decide +kernel
theorem dX12_isCompared_11 : decode cX12_isCompared 11 = .ok (.aload_n 0, 1) := by decide +kernel
theorem dX12_isCompared_12 : decode cX12_isCompared 12 = .ok (.getfield 29, 3) := by decide +kernel
theorem dX12_isCompared_15 : decode cX12_isCompared 15 = .ok (.iload_n 1, 1) := by decide +kernel
theorem dX12_isCompared_16 : decode cX12_isCompared 16 = .ok (.iaload, 1) := by decide +kernel
theorem dX12_isCompared_17 : decode cX12_isCompared 17 = .ok (.invokestatic 181, 3) := by decide +kernel
theorem dX12_isCompared_20 : decode cX12_isCompared 20 = .ok (.iconst 4, 1) := by decide +kernel
theorem dX12_isCompared_21 : decode cX12_isCompared 21 = .ok (.if_icmp .le 9, 3) := by decide +kernel
theorem dX12_isCompared_24 : decode cX12_isCompared 24 = .ok (.iinc 1 (-1), 3) := by decide +kernel
theorem dX12_isCompared_27 : decode cX12_isCompared 27 = .ok (.goto (-20), 3) := by decide +kernel
theorem dX12_isCompared_30 : decode cX12_isCompared 30 = .ok (.iload_n 1, 1) := by decide +kernel
theorem dX12_isCompared_31 : decode cX12_isCompared 31 = .ok (.ifCond .lt 20, 3) := by decide +kernel
theorem dX12_isCompared_34 : decode cX12_isCompared 34 = .ok (.aload_n 0, 1) := by decide +kernel
theorem dX12_isCompared_35 : decode cX12_isCompared 35 = .ok (.getfield 29, 3) := by decide +kernel
theorem dX12_isCompared_38 : decode cX12_isCompared 38 = .ok (.iload_n 1, 1) := by decide +kernel
theorem dX12_isCompared_39 : decode cX12_isCompared 39 = .ok (.iaload, 1) := by decide +kernel
theorem dX12_isCompared_40 : decode cX12_isCompared 40 = .ok (.invokestatic 181, 3) := by decide +kernel
theorem dX12_isCompared_43 : decode cX12_isCompared 43 = .ok (.iconst 4, 1) := by decide +kernel
theorem dX12_isCompared_44 : decode cX12_isCompared 44 = .ok (.if_icmp .ne 7, 3) := by decide +kernel
theorem dX12_isCompared_47 : decode cX12_isCompared 47 = .ok (.iconst 1, 1) := by decide +kernel
theorem dX12_isCompared_48 : decode cX12_isCompared 48 = .ok (.goto 4, 3) := by decide +kernel
theorem dX12_isCompared_51 : decode cX12_isCompared 51 = .ok (.iconst 0, 1) := by decide +kernel
theorem dX12_isCompared_52 : decode cX12_isCompared 52 = .ok (.ireturn, 1) := by decide +kernel
def Md_isCompared_30 (ν : Nm) (x1 : Int32) : Option Bool :=
  (if x1 < 0 then
    some false
  else
    if inb x1 160 then
    (Md_rank (gi ν 318 x1.toNatClampNeg)).bind fun v3 =>
    (if ¬ v3 = (4 : Int32) then
      some false
    else
      some true)
    else none)
set_option maxRecDepth 100000 in
set_option maxHeartbeats 4000000 in
theorem t_Md_isCompared_30 {g : GG} {d : Nat} {ν : Nm} (hd0 : 2 ≤ d) : ∀ (x1 : Int32) (r : Bool), Md_isCompared_30 ν x1 = some r → Z g d (0, 0) mX12_isCompared 333 0 0 30 [(0, .ref 313), (1, .int x1)] [] (zem ν) (zF g (some (.int (b2i r)), zem ν)) := by
  intro x1 r h
  unfold Md_isCompared_30 at h
  refine z_iload_n dX12_isCompared_30 1 rfl ?_
  refine z_if_lt 51 dX12_isCompared_31 rfl (fun hc1 => ?_) (fun hc1 => ?_)
  · replace h := oT hc1 h
    refine z_iconst (M := mX12_isCompared) (v := 0) dX12_isCompared_51 rfl ?_
    cases h
    exact z_zret dX12_isCompared_52 rfl rfl
  · replace h := oF hc1 h
    refine z_aload_n dX12_isCompared_34 0 rfl ?_
    refine y_getR (M := mX12_isCompared) (r := 318) dX12_isCompared_35 zk_313 flRX12_29 fr_10_15.1 (fr_10_15.2 _) ?_
    refine z_iload_n dX12_isCompared_38 1 rfl ?_
    obtain ⟨hi2, h⟩ := oif h
    refine y_iald (M := mX12_isCompared) (jj := x1.toNatClampNeg) dX12_isCompared_39 zk_318 hi2 rfl ?_
    obtain ⟨v3, he3, h⟩ := obind h
    refine y_Si (M := mX12_isCompared) (Y := mX12_rank) (d2 := d - 1) (As := [.int (gi ν 318 x1.toNatClampNeg)]) (st := []) dX12_isCompared_40 mlRX12_181 cv_X12_rank (ct_Md_rank (dle (Nat.le_of_ble_eq_true rfl) hd0) he3) (dps (Nat.le_of_ble_eq_true rfl) hd0) rfl rfl (Nat.le_of_ble_eq_true rfl) ?_
    refine z_iconst (M := mX12_isCompared) (v := 4) dX12_isCompared_43 rfl ?_
    refine z_icmp_ne 51 dX12_isCompared_44 rfl (fun hc4 => ?_) (fun hc4 => ?_)
    · replace h := oT hc4 h
      refine z_iconst (M := mX12_isCompared) (v := 0) dX12_isCompared_51 rfl ?_
      cases h
      exact z_zret dX12_isCompared_52 rfl rfl
    · replace h := oFn hc4 h
      refine z_iconst (M := mX12_isCompared) (v := 1) dX12_isCompared_47 rfl ?_
      refine z_goto 52 dX12_isCompared_48 rfl ?_
      cases h
      exact z_zret dX12_isCompared_52 rfl rfl
def Md_isCompared_7 (ν : Nm) : Nat → Int32 → Option Bool
  | 0, _ => none
  | f + 1, x1 =>
    (if x1 < 0 then
      Md_isCompared_30 ν x1
    else
      if inb x1 160 then
      (Md_rank (gi ν 318 x1.toNatClampNeg)).bind fun v3 =>
      (if v3 ≤ (4 : Int32) then
        Md_isCompared_30 ν x1
      else
        (Md_isCompared_7 ν f) (x1 + (-1 : Int32)))
      else none)
set_option maxRecDepth 100000 in
set_option maxHeartbeats 4000000 in
theorem t_Md_isCompared_7 {g : GG} {d : Nat} {ν : Nm} (hd0 : 2 ≤ d) : ∀ (f : Nat), ∀ (x1 : Int32) (r : Bool), Md_isCompared_7 ν f x1 = some r → Z g d (0, 0) mX12_isCompared 333 0 0 7 [(0, .ref 313), (1, .int x1)] [] (zem ν) (zF g (some (.int (b2i r)), zem ν)) := by
  intro f
  induction f with
  | zero =>
    intro x1 r h
    cases h
  | succ f ih =>
    intro x1 r h
    rw [Md_isCompared_7] at h
    refine z_iload_n dX12_isCompared_7 1 rfl ?_
    refine z_if_lt 30 dX12_isCompared_8 rfl (fun hc1 => ?_) (fun hc1 => ?_)
    · replace h := oT hc1 h
      exact t_Md_isCompared_30 hd0  x1 _ h
    · replace h := oF hc1 h
      refine z_aload_n dX12_isCompared_11 0 rfl ?_
      refine y_getR (M := mX12_isCompared) (r := 318) dX12_isCompared_12 zk_313 flRX12_29 fr_10_15.1 (fr_10_15.2 _) ?_
      refine z_iload_n dX12_isCompared_15 1 rfl ?_
      obtain ⟨hi2, h⟩ := oif h
      refine y_iald (M := mX12_isCompared) (jj := x1.toNatClampNeg) dX12_isCompared_16 zk_318 hi2 rfl ?_
      obtain ⟨v3, he3, h⟩ := obind h
      refine y_Si (M := mX12_isCompared) (Y := mX12_rank) (d2 := d - 1) (As := [.int (gi ν 318 x1.toNatClampNeg)]) (st := []) dX12_isCompared_17 mlRX12_181 cv_X12_rank (ct_Md_rank (dle (Nat.le_of_ble_eq_true rfl) hd0) he3) (dps (Nat.le_of_ble_eq_true rfl) hd0) rfl rfl (Nat.le_of_ble_eq_true rfl) ?_
      refine z_iconst (M := mX12_isCompared) (v := 4) dX12_isCompared_20 rfl ?_
      refine z_icmp_le 30 dX12_isCompared_21 rfl (fun hc4 => ?_) (fun hc4 => ?_)
      · replace h := oT hc4 h
        exact t_Md_isCompared_30 hd0  x1 _ h
      · replace h := oF hc4 h
        refine z_iinc (M := mX12_isCompared) (v := (x1 + (-1 : Int32))) (lv2 := [(1, .int (x1 + (-1 : Int32))), (0, .ref 313)]) dX12_isCompared_24 1 rfl rfl (Nat.le_of_ble_eq_true rfl) rfl ?_
        refine z_goto 7 dX12_isCompared_27 rfl ?_
        refine z_lv (lv2 := [(0, .ref 313), (1, .int (x1 + (-1 : Int32)))]) [1, 0] rfl ?_
        exact ih (x1 + (-1 : Int32)) _ h
def Md_isCompared (ν : Nm) : Option Bool :=
  Md_isCompared_7 ν FU ((gi ν 313 16) - (1 : Int32))
set_option maxRecDepth 100000 in
set_option maxHeartbeats 4000000 in
theorem t_Md_isCompared {g : GG} {d : Nat} {ν : Nm} (hd0 : 2 ≤ d) : ∀ (r : Bool), Md_isCompared ν = some r → Z g d (0, 0) mX12_isCompared 333 0 0 0 [(0, .ref 313)] [] (zem ν) (zF g (some (.int (b2i r)), zem ν)) := by
  intro r h
  unfold Md_isCompared at h
  refine z_aload_n dX12_isCompared_0 0 rfl ?_
  refine y_getI dX12_isCompared_1 zk_313 flRX12_178 ?_
  refine z_iconst (M := mX12_isCompared) (v := 1) dX12_isCompared_4 rfl ?_
  refine z_isub dX12_isCompared_5 ?_
  refine z_istore_n (M := mX12_isCompared) (lv2 := [(1, .int ((gi ν 313 16) - (1 : Int32))), (0, .ref 313)]) dX12_isCompared_6 (Nat.le_of_ble_eq_true rfl) rfl ?_
  refine z_lv (lv2 := [(0, .ref 313), (1, .int ((gi ν 313 16) - (1 : Int32)))]) [1, 0] rfl ?_
  exact t_Md_isCompared_7 hd0 FU ((gi ν 313 16) - (1 : Int32)) _ h
theorem ct_Md_isCompared {g : GG} {d : Nat} {ν : Nm} {r : Bool} (hd0 : 2 ≤ d)  (h : Md_isCompared ν = some r) : Ct g d mX12_isCompared [.ref 313] (zem ν) (some (.int (b2i r)), zem ν) := y_entry in_X12_isCompared (Nat.le_of_ble_eq_true rfl) rfl (t_Md_isCompared hd0 r h)
-- FuseMinutesModel.betweenOf()I
theorem dX12_betweenOf_0 : decode cX12_betweenOf 0 = .ok (.aload_n 0, 1) := by decide +kernel
theorem dX12_betweenOf_1 : decode cX12_betweenOf 1 = .ok (.getfield 134, 3) := by decide +kernel
theorem dX12_betweenOf_4 : decode cX12_betweenOf 4 = .ok (.bipush 43, 2) := by decide +kernel
theorem dX12_betweenOf_6 : decode cX12_betweenOf 6 = .ok (.if_icmp .ne 6, 3) := by decide +kernel
theorem dX12_betweenOf_9 : decode cX12_betweenOf 9 = .ok (.bipush 6, 2) := by decide +kernel
theorem dX12_betweenOf_11 : decode cX12_betweenOf 11 = .ok (.ireturn, 1) := by decide +kernel
theorem dX12_betweenOf_12 : decode cX12_betweenOf 12 = .ok (.aload_n 0, 1) := by decide +kernel
theorem dX12_betweenOf_13 : decode cX12_betweenOf 13 = .ok (.getfield 134, 3) := by decide +kernel
theorem dX12_betweenOf_16 : decode cX12_betweenOf 16 = .ok (.bipush 45, 2) := by decide +kernel
theorem dX12_betweenOf_18 : decode cX12_betweenOf 18 = .ok (.if_icmp .ne 6, 3) := by decide +kernel
theorem dX12_betweenOf_21 : decode cX12_betweenOf 21 = .ok (.bipush 7, 2) := by decide +kernel
theorem dX12_betweenOf_23 : decode cX12_betweenOf 23 = .ok (.ireturn, 1) := by decide +kernel
theorem dX12_betweenOf_24 : decode cX12_betweenOf 24 = .ok (.aload_n 0, 1) := by decide +kernel
theorem dX12_betweenOf_25 : decode cX12_betweenOf 25 = .ok (.getfield 134, 3) := by decide +kernel
theorem dX12_betweenOf_28 : decode cX12_betweenOf 28 = .ok (.bipush 42, 2) := by decide +kernel
theorem dX12_betweenOf_30 : decode cX12_betweenOf 30 = .ok (.if_icmp .ne 6, 3) := by decide +kernel
theorem dX12_betweenOf_33 : decode cX12_betweenOf 33 = .ok (.bipush 8, 2) := by decide +kernel
theorem dX12_betweenOf_35 : decode cX12_betweenOf 35 = .ok (.ireturn, 1) := by decide +kernel
theorem dX12_betweenOf_36 : decode cX12_betweenOf 36 = .ok (.aload_n 0, 1) := by decide +kernel
theorem dX12_betweenOf_37 : decode cX12_betweenOf 37 = .ok (.getfield 134, 3) := by decide +kernel
theorem dX12_betweenOf_40 : decode cX12_betweenOf 40 = .ok (.bipush 47, 2) := by decide +kernel
theorem dX12_betweenOf_42 : decode cX12_betweenOf 42 = .ok (.if_icmp .ne 6, 3) := by decide +kernel
theorem dX12_betweenOf_45 : decode cX12_betweenOf 45 = .ok (.bipush 9, 2) := by decide +kernel
theorem dX12_betweenOf_47 : decode cX12_betweenOf 47 = .ok (.ireturn, 1) := by decide +kernel
theorem dX12_betweenOf_48 : decode cX12_betweenOf 48 = .ok (.aload_n 0, 1) := by decide +kernel
theorem dX12_betweenOf_49 : decode cX12_betweenOf 49 = .ok (.invokevirtual 195, 3) := by decide +kernel
theorem dX12_betweenOf_52 : decode cX12_betweenOf 52 = .ok (.bipush 41, 2) := by decide +kernel
theorem dX12_betweenOf_54 : decode cX12_betweenOf 54 = .ok (.if_icmp .eq 5, 3) := by decide +kernel
theorem dX12_betweenOf_57 : decode cX12_betweenOf 57 = .ok (.iconst (-1), 1) := by decide +kernel
theorem dX12_betweenOf_58 : decode cX12_betweenOf 58 = .ok (.ireturn, 1) := by decide +kernel
theorem dX12_betweenOf_59 : decode cX12_betweenOf 59 = .ok (.aload_n 0, 1) := by decide +kernel
theorem dX12_betweenOf_60 : decode cX12_betweenOf 60 = .ok (.invokevirtual 224, 3) := by decide +kernel
theorem dX12_betweenOf_63 : decode cX12_betweenOf 63 = .ok (.ifCond .ne 8, 3) := by decide +kernel
theorem dX12_betweenOf_66 : decode cX12_betweenOf 66 = .ok (.aload_n 0, 1) := by decide +kernel
theorem dX12_betweenOf_67 : decode cX12_betweenOf 67 = .ok (.invokevirtual 227, 3) := by decide +kernel
theorem dX12_betweenOf_70 : decode cX12_betweenOf 70 = .ok (.ireturn, 1) := by decide +kernel
theorem dX12_betweenOf_71 : decode cX12_betweenOf 71 = .ok (.aload_n 0, 1) := by decide +kernel
theorem dX12_betweenOf_72 : decode cX12_betweenOf 72 = .ok (.bipush 97, 2) := by decide +kernel
theorem dX12_betweenOf_74 : decode cX12_betweenOf 74 = .ok (.bipush 110, 2) := by decide +kernel
theorem dX12_betweenOf_76 : decode cX12_betweenOf 76 = .ok (.bipush 100, 2) := by decide +kernel
theorem dX12_betweenOf_78 : decode cX12_betweenOf 78 = .ok (.invokestatic 160, 3) := by decide +kernel
theorem dX12_betweenOf_81 : decode cX12_betweenOf 81 = .ok (.invokevirtual 216, 3) := by decide +kernel
theorem dX12_betweenOf_84 : decode cX12_betweenOf 84 = .ok (.ifCond .eq 8, 3) := by decide +kernel
theorem dX12_betweenOf_87 : decode cX12_betweenOf 87 = .ok (.bipush 21, 2) := by decide +kernel
theorem dX12_betweenOf_89 : decode cX12_betweenOf 89 = .ok (.goto 23, 3) := by decide +kernel
theorem dX12_betweenOf_92 : decode cX12_betweenOf 92 = .ok (.aload_n 0, 1) := by decide +kernel
theorem dX12_betweenOf_93 : decode cX12_betweenOf 93 = .ok (.bipush 111, 2) := by decide +kernel
theorem dX12_betweenOf_95 : decode cX12_betweenOf 95 = .ok (.bipush 114, 2) := by decide +kernel
theorem dX12_betweenOf_97 : decode cX12_betweenOf 97 = .ok (.invokestatic 156, 3) := by decide +kernel
theorem dX12_betweenOf_100 : decode cX12_betweenOf 100 = .ok (.invokevirtual 216, 3) := by decide +kernel
theorem dX12_betweenOf_103 : decode cX12_betweenOf 103 = .ok (.ifCond .eq 8, 3) := by decide +kernel
theorem dX12_betweenOf_106 : decode cX12_betweenOf 106 = .ok (.bipush 22, 2) := by decide +kernel
theorem dX12_betweenOf_108 : decode cX12_betweenOf 108 = .ok (.goto 4, 3) := by decide +kernel
theorem dX12_betweenOf_111 : decode cX12_betweenOf 111 = .ok (.iconst (-1), 1) := by decide +kernel
theorem dX12_betweenOf_112 : decode cX12_betweenOf 112 = .ok (.ireturn, 1) := by decide +kernel
def Md_betweenOf (ν : Nm) : Option Int32 :=
  (if ¬ (gi ν 313 9) = (43 : Int32) then
    (if ¬ (gi ν 313 9) = (45 : Int32) then
      (if ¬ (gi ν 313 9) = (42 : Int32) then
        (if ¬ (gi ν 313 9) = (47 : Int32) then
          (Md_openNow ν).bind fun v5 =>
          (if v5 = (41 : Int32) then
            (Md_isCompared ν).bind fun v7 =>
            (if ¬ (b2i v7) = 0 then
              (Md_w3 (97 : Int32) (110 : Int32) (100 : Int32)).bind fun v9 =>
              (Md_isWord ν v9).bind fun v10 =>
              (if (b2i v10) = 0 then
                (Md_w2 (111 : Int32) (114 : Int32)).bind fun v12 =>
                (Md_isWord ν v12).bind fun v13 =>
                (if (b2i v13) = 0 then
                  some (-1 : Int32)
                else
                  some (22 : Int32))
              else
                some (21 : Int32))
            else
              (Md_compareOf ν).bind fun v15 =>
              some v15)
          else
            some (-1 : Int32))
        else
          some (9 : Int32))
      else
        some (8 : Int32))
    else
      some (7 : Int32))
  else
    some (6 : Int32))
set_option maxRecDepth 100000 in
set_option maxHeartbeats 4000000 in
theorem t_Md_betweenOf {g : GG} {d : Nat} {ν : Nm} (hd0 : 3 ≤ d) : ∀ (r : Int32), Md_betweenOf ν = some r → Z g d (0, 0) mX12_betweenOf 333 0 0 0 [(0, .ref 313)] [] (zem ν) (zF g (some (.int r), zem ν)) := by
  intro r h
  unfold Md_betweenOf at h
  refine z_aload_n dX12_betweenOf_0 0 rfl ?_
  refine y_getI dX12_betweenOf_1 zk_313 flRX12_134 ?_
  refine z_bipush (M := mX12_betweenOf) (v := 43) dX12_betweenOf_4 rfl ?_
  refine z_icmp_ne 12 dX12_betweenOf_6 rfl (fun hc1 => ?_) (fun hc1 => ?_)
  · replace h := oT hc1 h
    refine z_aload_n dX12_betweenOf_12 0 rfl ?_
    refine y_getI dX12_betweenOf_13 zk_313 flRX12_134 ?_
    refine z_bipush (M := mX12_betweenOf) (v := 45) dX12_betweenOf_16 rfl ?_
    refine z_icmp_ne 24 dX12_betweenOf_18 rfl (fun hc2 => ?_) (fun hc2 => ?_)
    · replace h := oT hc2 h
      refine z_aload_n dX12_betweenOf_24 0 rfl ?_
      refine y_getI dX12_betweenOf_25 zk_313 flRX12_134 ?_
      refine z_bipush (M := mX12_betweenOf) (v := 42) dX12_betweenOf_28 rfl ?_
      refine z_icmp_ne 36 dX12_betweenOf_30 rfl (fun hc3 => ?_) (fun hc3 => ?_)
      · replace h := oT hc3 h
        refine z_aload_n dX12_betweenOf_36 0 rfl ?_
        refine y_getI dX12_betweenOf_37 zk_313 flRX12_134 ?_
        refine z_bipush (M := mX12_betweenOf) (v := 47) dX12_betweenOf_40 rfl ?_
        refine z_icmp_ne 48 dX12_betweenOf_42 rfl (fun hc4 => ?_) (fun hc4 => ?_)
        · replace h := oT hc4 h
          refine z_aload_n dX12_betweenOf_48 0 rfl ?_
          obtain ⟨v5, he5, h⟩ := obind h
          refine y_Vi (M := mX12_betweenOf) (Y := mX12_openNow) (d2 := d - 1) (As := []) (st := []) dX12_betweenOf_49 mlRX12_195 cv_X12_openNow zk_313 (ct_Md_openNow (dle (Nat.le_of_ble_eq_true rfl) hd0) he5) (dps (Nat.le_of_ble_eq_true rfl) hd0) rfl rfl (Nat.le_of_ble_eq_true rfl) ?_
          refine z_bipush (M := mX12_betweenOf) (v := 41) dX12_betweenOf_52 rfl ?_
          refine z_icmp_eq 59 dX12_betweenOf_54 rfl (fun hc6 => ?_) (fun hc6 => ?_)
          · replace h := oT hc6 h
            refine z_aload_n dX12_betweenOf_59 0 rfl ?_
            obtain ⟨v7, he7, h⟩ := obind h
            refine y_Vi (M := mX12_betweenOf) (Y := mX12_isCompared) (d2 := d - 1) (As := []) (st := []) dX12_betweenOf_60 mlRX12_224 cv_X12_isCompared zk_313 (ct_Md_isCompared (dle (Nat.le_of_ble_eq_true rfl) hd0) he7) (dps (Nat.le_of_ble_eq_true rfl) hd0) rfl rfl (Nat.le_of_ble_eq_true rfl) ?_
            refine z_if_ne 71 dX12_betweenOf_63 rfl (fun hc8 => ?_) (fun hc8 => ?_)
            · replace h := oT hc8 h
              refine z_aload_n dX12_betweenOf_71 0 rfl ?_
              refine z_bipush (M := mX12_betweenOf) (v := 97) dX12_betweenOf_72 rfl ?_
              refine z_bipush (M := mX12_betweenOf) (v := 110) dX12_betweenOf_74 rfl ?_
              refine z_bipush (M := mX12_betweenOf) (v := 100) dX12_betweenOf_76 rfl ?_
              obtain ⟨v9, he9, h⟩ := obind h
              refine y_Sl (M := mX12_betweenOf) (Y := mX12_w3) (d2 := d - 1) (As := [.int (97 : Int32), .int (110 : Int32), .int (100 : Int32)]) (st := [.ref 313]) dX12_betweenOf_78 mlRX12_160 cv_X12_w3 (ct_Md_w3 (dle (Nat.le_of_ble_eq_true rfl) hd0) he9) (dps (Nat.le_of_ble_eq_true rfl) hd0) rfl rfl (Nat.le_of_ble_eq_true rfl) ?_
              obtain ⟨v10, he10, h⟩ := obind h
              refine y_Vi (M := mX12_betweenOf) (Y := mX12_isWord) (d2 := d - 1) (As := [.long v9]) (st := []) dX12_betweenOf_81 mlRX12_216 cv_X12_isWord zk_313 (ct_Md_isWord (dle (Nat.le_of_ble_eq_true rfl) hd0) he10) (dps (Nat.le_of_ble_eq_true rfl) hd0) rfl rfl (Nat.le_of_ble_eq_true rfl) ?_
              refine z_if_eq 92 dX12_betweenOf_84 rfl (fun hc11 => ?_) (fun hc11 => ?_)
              · replace h := oT hc11 h
                refine z_aload_n dX12_betweenOf_92 0 rfl ?_
                refine z_bipush (M := mX12_betweenOf) (v := 111) dX12_betweenOf_93 rfl ?_
                refine z_bipush (M := mX12_betweenOf) (v := 114) dX12_betweenOf_95 rfl ?_
                obtain ⟨v12, he12, h⟩ := obind h
                refine y_Sl (M := mX12_betweenOf) (Y := mX12_w2) (d2 := d - 1) (As := [.int (111 : Int32), .int (114 : Int32)]) (st := [.ref 313]) dX12_betweenOf_97 mlRX12_156 cv_X12_w2 (ct_Md_w2 (dle (Nat.le_of_ble_eq_true rfl) hd0) he12) (dps (Nat.le_of_ble_eq_true rfl) hd0) rfl rfl (Nat.le_of_ble_eq_true rfl) ?_
                obtain ⟨v13, he13, h⟩ := obind h
                refine y_Vi (M := mX12_betweenOf) (Y := mX12_isWord) (d2 := d - 1) (As := [.long v12]) (st := []) dX12_betweenOf_100 mlRX12_216 cv_X12_isWord zk_313 (ct_Md_isWord (dle (Nat.le_of_ble_eq_true rfl) hd0) he13) (dps (Nat.le_of_ble_eq_true rfl) hd0) rfl rfl (Nat.le_of_ble_eq_true rfl) ?_
                refine z_if_eq 111 dX12_betweenOf_103 rfl (fun hc14 => ?_) (fun hc14 => ?_)
                · replace h := oT hc14 h
                  refine z_iconst (M := mX12_betweenOf) (v := -1) dX12_betweenOf_111 rfl ?_
                  cases h
                  exact z_iret dX12_betweenOf_112 rfl
                · replace h := oF hc14 h
                  refine z_bipush (M := mX12_betweenOf) (v := 22) dX12_betweenOf_106 rfl ?_
                  refine z_goto 112 dX12_betweenOf_108 rfl ?_
                  cases h
                  exact z_iret dX12_betweenOf_112 rfl
              · replace h := oF hc11 h
                refine z_bipush (M := mX12_betweenOf) (v := 21) dX12_betweenOf_87 rfl ?_
                refine z_goto 112 dX12_betweenOf_89 rfl ?_
                cases h
                exact z_iret dX12_betweenOf_112 rfl
            · replace h := oFn hc8 h
              refine z_aload_n dX12_betweenOf_66 0 rfl ?_
              obtain ⟨v15, he15, h⟩ := obind h
              refine y_Vi (M := mX12_betweenOf) (Y := mX12_compareOf) (d2 := d - 1) (As := []) (st := []) dX12_betweenOf_67 mlRX12_227 cv_X12_compareOf zk_313 (ct_Md_compareOf (dle (Nat.le_of_ble_eq_true rfl) hd0) he15) (dps (Nat.le_of_ble_eq_true rfl) hd0) rfl rfl (Nat.le_of_ble_eq_true rfl) ?_
              cases h
              exact z_iret dX12_betweenOf_70 rfl
          · replace h := oF hc6 h
            refine z_iconst (M := mX12_betweenOf) (v := -1) dX12_betweenOf_57 rfl ?_
            cases h
            exact z_iret dX12_betweenOf_58 rfl
        · replace h := oFn hc4 h
          refine z_bipush (M := mX12_betweenOf) (v := 9) dX12_betweenOf_45 rfl ?_
          cases h
          exact z_iret dX12_betweenOf_47 rfl
      · replace h := oFn hc3 h
        refine z_bipush (M := mX12_betweenOf) (v := 8) dX12_betweenOf_33 rfl ?_
        cases h
        exact z_iret dX12_betweenOf_35 rfl
    · replace h := oFn hc2 h
      refine z_bipush (M := mX12_betweenOf) (v := 7) dX12_betweenOf_21 rfl ?_
      cases h
      exact z_iret dX12_betweenOf_23 rfl
  · replace h := oFn hc1 h
    refine z_bipush (M := mX12_betweenOf) (v := 6) dX12_betweenOf_9 rfl ?_
    cases h
    exact z_iret dX12_betweenOf_11 rfl
theorem ct_Md_betweenOf {g : GG} {d : Nat} {ν : Nm} {r : Int32} (hd0 : 3 ≤ d)  (h : Md_betweenOf ν = some r) : Ct g d mX12_betweenOf [.ref 313] (zem ν) (some (.int r), zem ν) := y_entry in_X12_betweenOf (Nat.le_of_ble_eq_true rfl) rfl (t_Md_betweenOf hd0 r h)
-- FuseMinutesModel.partOf(I)I
theorem dX12_partOf_0 : decode cX12_partOf 0 = .ok (.iload_n 1, 1) := by decide +kernel
theorem dX12_partOf_1 : decode cX12_partOf 1 = .ok (.tableswitch 125 40 43 #[31, 46, 78, 103], 31) := by decide +kernel
theorem dX12_partOf_32 : decode cX12_partOf 32 = .ok (.aload_n 0, 1) := by decide +kernel
theorem dX12_partOf_33 : decode cX12_partOf 33 = .ok (.getfield 134, 3) := by decide +kernel
theorem dX12_partOf_36 : decode cX12_partOf 36 = .ok (.bipush 41, 2) := by decide +kernel
theorem dX12_partOf_38 : decode cX12_partOf 38 = .ok (.if_icmp .ne 7, 3) := by decide +kernel
theorem dX12_partOf_41 : decode cX12_partOf 41 = .ok (.iconst 0, 1) := by decide +kernel
theorem dX12_partOf_42 : decode cX12_partOf 42 = .ok (.goto 4, 3) := by decide +kernel
theorem dX12_partOf_45 : decode cX12_partOf 45 = .ok (.iconst (-1), 1) := by decide +kernel
theorem dX12_partOf_46 : decode cX12_partOf 46 = .ok (.ireturn, 1) := by decide +kernel
theorem dX12_partOf_47 : decode cX12_partOf 47 = .ok (.aload_n 0, 1) := by decide +kernel
theorem dX12_partOf_48 : decode cX12_partOf 48 = .ok (.bipush 116, 2) := by decide +kernel
theorem dX12_partOf_50 : decode cX12_partOf 50 = .ok (.bipush 104, 2) := by decide +kernel
theorem dX12_partOf_52 : decode cX12_partOf 52 = .ok (.bipush 101, 2) := by decide +kernel
theorem dX12_partOf_54 : decode cX12_partOf 54 = .ok (.bipush 110, 2) := by decide +kernel
theorem dX12_partOf_56 : decode cX12_partOf 56 = .ok (.invokestatic 164, 3) := by decide +kernel
theorem dX12_partOf_59 : decode cX12_partOf 59 = .ok (.invokevirtual 216, 3) := by decide +kernel
theorem dX12_partOf_62 : decode cX12_partOf 62 = .ok (.ifCond .eq 15, 3) := by decide +kernel
theorem dX12_partOf_65 : decode cX12_partOf 65 = .ok (.aload_n 0, 1) := by decide +kernel
theorem dX12_partOf_66 : decode cX12_partOf 66 = .ok (.invokevirtual 224, 3) := by decide +kernel
theorem dX12_partOf_69 : decode cX12_partOf 69 = .ok (.ifCond .eq 8, 3) := by decide +kernel
theorem dX12_partOf_72 : decode cX12_partOf 72 = .ok (.bipush 42, 2) := by decide +kernel
theorem dX12_partOf_74 : decode cX12_partOf 74 = .ok (.goto 4, 3) := by decide +kernel
theorem dX12_partOf_77 : decode cX12_partOf 77 = .ok (.iconst (-1), 1) := by decide +kernel
theorem dX12_partOf_78 : decode cX12_partOf 78 = .ok (.ireturn, 1) := by decide +kernel
theorem dX12_partOf_79 : decode cX12_partOf 79 = .ok (.aload_n 0, 1) := by decide +kernel
theorem dX12_partOf_80 : decode cX12_partOf 80 = .ok (.bipush 101, 2) := by decide +kernel
theorem dX12_partOf_82 : decode cX12_partOf 82 = .ok (.bipush 108, 2) := by decide +kernel
theorem dX12_partOf_84 : decode cX12_partOf 84 = .ok (.bipush 115, 2) := by decide +kernel
theorem dX12_partOf_86 : decode cX12_partOf 86 = .ok (.bipush 101, 2) := by decide +kernel
theorem dX12_partOf_88 : decode cX12_partOf 88 = .ok (.invokestatic 164, 3) := by decide +kernel
theorem dX12_partOf_91 : decode cX12_partOf 91 = .ok (.invokevirtual 216, 3) := by decide +kernel
theorem dX12_partOf_94 : decode cX12_partOf 94 = .ok (.ifCond .eq 8, 3) := by decide +kernel
theorem dX12_partOf_97 : decode cX12_partOf 97 = .ok (.bipush 43, 2) := by decide +kernel
theorem dX12_partOf_99 : decode cX12_partOf 99 = .ok (.goto 4, 3) := by decide +kernel
theorem dX12_partOf_102 : decode cX12_partOf 102 = .ok (.iconst (-1), 1) := by decide +kernel
theorem dX12_partOf_103 : decode cX12_partOf 103 = .ok (.ireturn, 1) := by decide +kernel
theorem dX12_partOf_104 : decode cX12_partOf 104 = .ok (.aload_n 0, 1) := by decide +kernel
theorem dX12_partOf_105 : decode cX12_partOf 105 = .ok (.bipush 101, 2) := by decide +kernel
theorem dX12_partOf_107 : decode cX12_partOf 107 = .ok (.bipush 110, 2) := by decide +kernel
theorem dX12_partOf_109 : decode cX12_partOf 109 = .ok (.bipush 100, 2) := by decide +kernel
theorem dX12_partOf_111 : decode cX12_partOf 111 = .ok (.invokestatic 160, 3) := by decide +kernel
theorem dX12_partOf_114 : decode cX12_partOf 114 = .ok (.invokevirtual 216, 3) := by decide +kernel
theorem dX12_partOf_117 : decode cX12_partOf 117 = .ok (.ifCond .eq 7, 3) := by decide +kernel
theorem dX12_partOf_120 : decode cX12_partOf 120 = .ok (.iconst 0, 1) := by decide +kernel
theorem dX12_partOf_121 : decode cX12_partOf 121 = .ok (.goto 4, 3) := by decide +kernel
theorem dX12_partOf_124 : decode cX12_partOf 124 = .ok (.iconst (-1), 1) := by decide +kernel
theorem dX12_partOf_125 : decode cX12_partOf 125 = .ok (.ireturn, 1) := by decide +kernel
theorem dX12_partOf_126 : decode cX12_partOf 126 = .ok (.iconst (-1), 1) := by decide +kernel
theorem dX12_partOf_127 : decode cX12_partOf 127 = .ok (.ireturn, 1) := by decide +kernel
def Md_partOf (ν : Nm) (x1 : Int32) : Option Int32 :=
  (if x1 = (40 : Int32) then
    (if ¬ (gi ν 313 9) = (41 : Int32) then
      some (-1 : Int32)
    else
      some (0 : Int32))
  else
  (if x1 = (41 : Int32) then
    (Md_w4 (116 : Int32) (104 : Int32) (101 : Int32) (110 : Int32)).bind fun v3 =>
    (Md_isWord ν v3).bind fun v4 =>
    (if (b2i v4) = 0 then
      some (-1 : Int32)
    else
      (Md_isCompared ν).bind fun v6 =>
      (if (b2i v6) = 0 then
        some (-1 : Int32)
      else
        some (42 : Int32)))
  else
  (if x1 = (42 : Int32) then
    (Md_w4 (101 : Int32) (108 : Int32) (115 : Int32) (101 : Int32)).bind fun v9 =>
    (Md_isWord ν v9).bind fun v10 =>
    (if (b2i v10) = 0 then
      some (-1 : Int32)
    else
      some (43 : Int32))
  else
  (if x1 = (43 : Int32) then
    (Md_w3 (101 : Int32) (110 : Int32) (100 : Int32)).bind fun v13 =>
    (Md_isWord ν v13).bind fun v14 =>
    (if (b2i v14) = 0 then
      some (-1 : Int32)
    else
      some (0 : Int32))
  else
    some (-1 : Int32)))))
set_option maxRecDepth 100000 in
set_option maxHeartbeats 4000000 in
theorem t_Md_partOf {g : GG} {d : Nat} {ν : Nm} (hd0 : 4 ≤ d) : ∀ (x1 : Int32) (r : Int32), Md_partOf ν x1 = some r → Z g d (0, 0) mX12_partOf 333 0 0 0 [(0, .ref 313), (1, .int x1)] [] (zem ν) (zF g (some (.int r), zem ν)) := by
  intro x1 r h
  unfold Md_partOf at h
  refine z_iload_n dX12_partOf_0 1 rfl ?_
  by_cases hc2 : x1 = (40 : Int32)
  · replace h := oT hc2 h
    refine y_sw (40 : Int32) (40) 32 dX12_partOf_1 hc2 rfl (by decide) (by decide) rfl rfl ?_
    refine z_aload_n dX12_partOf_32 0 rfl ?_
    refine y_getI dX12_partOf_33 zk_313 flRX12_134 ?_
    refine z_bipush (M := mX12_partOf) (v := 41) dX12_partOf_36 rfl ?_
    refine z_icmp_ne 45 dX12_partOf_38 rfl (fun hc1 => ?_) (fun hc1 => ?_)
    · replace h := oT hc1 h
      refine z_iconst (M := mX12_partOf) (v := -1) dX12_partOf_45 rfl ?_
      cases h
      exact z_iret dX12_partOf_46 rfl
    · replace h := oFn hc1 h
      refine z_iconst (M := mX12_partOf) (v := 0) dX12_partOf_41 rfl ?_
      refine z_goto 46 dX12_partOf_42 rfl ?_
      cases h
      exact z_iret dX12_partOf_46 rfl
  replace h := oF hc2 h
  by_cases hc8 : x1 = (41 : Int32)
  · replace h := oT hc8 h
    refine y_sw (41 : Int32) (41) 47 dX12_partOf_1 hc8 rfl (by decide) (by decide) rfl rfl ?_
    refine z_aload_n dX12_partOf_47 0 rfl ?_
    refine z_bipush (M := mX12_partOf) (v := 116) dX12_partOf_48 rfl ?_
    refine z_bipush (M := mX12_partOf) (v := 104) dX12_partOf_50 rfl ?_
    refine z_bipush (M := mX12_partOf) (v := 101) dX12_partOf_52 rfl ?_
    refine z_bipush (M := mX12_partOf) (v := 110) dX12_partOf_54 rfl ?_
    obtain ⟨v3, he3, h⟩ := obind h
    refine y_Sl (M := mX12_partOf) (Y := mX12_w4) (d2 := d - 1) (As := [.int (116 : Int32), .int (104 : Int32), .int (101 : Int32), .int (110 : Int32)]) (st := [.ref 313]) dX12_partOf_56 mlRX12_164 cv_X12_w4 (ct_Md_w4 (dle (Nat.le_of_ble_eq_true rfl) hd0) he3) (dps (Nat.le_of_ble_eq_true rfl) hd0) rfl rfl (Nat.le_of_ble_eq_true rfl) ?_
    obtain ⟨v4, he4, h⟩ := obind h
    refine y_Vi (M := mX12_partOf) (Y := mX12_isWord) (d2 := d - 1) (As := [.long v3]) (st := []) dX12_partOf_59 mlRX12_216 cv_X12_isWord zk_313 (ct_Md_isWord (dle (Nat.le_of_ble_eq_true rfl) hd0) he4) (dps (Nat.le_of_ble_eq_true rfl) hd0) rfl rfl (Nat.le_of_ble_eq_true rfl) ?_
    refine z_if_eq 77 dX12_partOf_62 rfl (fun hc5 => ?_) (fun hc5 => ?_)
    · replace h := oT hc5 h
      refine z_iconst (M := mX12_partOf) (v := -1) dX12_partOf_77 rfl ?_
      cases h
      exact z_iret dX12_partOf_78 rfl
    · replace h := oF hc5 h
      refine z_aload_n dX12_partOf_65 0 rfl ?_
      obtain ⟨v6, he6, h⟩ := obind h
      refine y_Vi (M := mX12_partOf) (Y := mX12_isCompared) (d2 := d - 1) (As := []) (st := []) dX12_partOf_66 mlRX12_224 cv_X12_isCompared zk_313 (ct_Md_isCompared (dle (Nat.le_of_ble_eq_true rfl) hd0) he6) (dps (Nat.le_of_ble_eq_true rfl) hd0) rfl rfl (Nat.le_of_ble_eq_true rfl) ?_
      refine z_if_eq 77 dX12_partOf_69 rfl (fun hc7 => ?_) (fun hc7 => ?_)
      · replace h := oT hc7 h
        refine z_iconst (M := mX12_partOf) (v := -1) dX12_partOf_77 rfl ?_
        cases h
        exact z_iret dX12_partOf_78 rfl
      · replace h := oF hc7 h
        refine z_bipush (M := mX12_partOf) (v := 42) dX12_partOf_72 rfl ?_
        refine z_goto 78 dX12_partOf_74 rfl ?_
        cases h
        exact z_iret dX12_partOf_78 rfl
  replace h := oF hc8 h
  by_cases hc12 : x1 = (42 : Int32)
  · replace h := oT hc12 h
    refine y_sw (42 : Int32) (42) 79 dX12_partOf_1 hc12 rfl (by decide) (by decide) rfl rfl ?_
    refine z_aload_n dX12_partOf_79 0 rfl ?_
    refine z_bipush (M := mX12_partOf) (v := 101) dX12_partOf_80 rfl ?_
    refine z_bipush (M := mX12_partOf) (v := 108) dX12_partOf_82 rfl ?_
    refine z_bipush (M := mX12_partOf) (v := 115) dX12_partOf_84 rfl ?_
    refine z_bipush (M := mX12_partOf) (v := 101) dX12_partOf_86 rfl ?_
    obtain ⟨v9, he9, h⟩ := obind h
    refine y_Sl (M := mX12_partOf) (Y := mX12_w4) (d2 := d - 1) (As := [.int (101 : Int32), .int (108 : Int32), .int (115 : Int32), .int (101 : Int32)]) (st := [.ref 313]) dX12_partOf_88 mlRX12_164 cv_X12_w4 (ct_Md_w4 (dle (Nat.le_of_ble_eq_true rfl) hd0) he9) (dps (Nat.le_of_ble_eq_true rfl) hd0) rfl rfl (Nat.le_of_ble_eq_true rfl) ?_
    obtain ⟨v10, he10, h⟩ := obind h
    refine y_Vi (M := mX12_partOf) (Y := mX12_isWord) (d2 := d - 1) (As := [.long v9]) (st := []) dX12_partOf_91 mlRX12_216 cv_X12_isWord zk_313 (ct_Md_isWord (dle (Nat.le_of_ble_eq_true rfl) hd0) he10) (dps (Nat.le_of_ble_eq_true rfl) hd0) rfl rfl (Nat.le_of_ble_eq_true rfl) ?_
    refine z_if_eq 102 dX12_partOf_94 rfl (fun hc11 => ?_) (fun hc11 => ?_)
    · replace h := oT hc11 h
      refine z_iconst (M := mX12_partOf) (v := -1) dX12_partOf_102 rfl ?_
      cases h
      exact z_iret dX12_partOf_103 rfl
    · replace h := oF hc11 h
      refine z_bipush (M := mX12_partOf) (v := 43) dX12_partOf_97 rfl ?_
      refine z_goto 103 dX12_partOf_99 rfl ?_
      cases h
      exact z_iret dX12_partOf_103 rfl
  replace h := oF hc12 h
  by_cases hc16 : x1 = (43 : Int32)
  · replace h := oT hc16 h
    refine y_sw (43 : Int32) (43) 104 dX12_partOf_1 hc16 rfl (by decide) (by decide) rfl rfl ?_
    refine z_aload_n dX12_partOf_104 0 rfl ?_
    refine z_bipush (M := mX12_partOf) (v := 101) dX12_partOf_105 rfl ?_
    refine z_bipush (M := mX12_partOf) (v := 110) dX12_partOf_107 rfl ?_
    refine z_bipush (M := mX12_partOf) (v := 100) dX12_partOf_109 rfl ?_
    obtain ⟨v13, he13, h⟩ := obind h
    refine y_Sl (M := mX12_partOf) (Y := mX12_w3) (d2 := d - 1) (As := [.int (101 : Int32), .int (110 : Int32), .int (100 : Int32)]) (st := [.ref 313]) dX12_partOf_111 mlRX12_160 cv_X12_w3 (ct_Md_w3 (dle (Nat.le_of_ble_eq_true rfl) hd0) he13) (dps (Nat.le_of_ble_eq_true rfl) hd0) rfl rfl (Nat.le_of_ble_eq_true rfl) ?_
    obtain ⟨v14, he14, h⟩ := obind h
    refine y_Vi (M := mX12_partOf) (Y := mX12_isWord) (d2 := d - 1) (As := [.long v13]) (st := []) dX12_partOf_114 mlRX12_216 cv_X12_isWord zk_313 (ct_Md_isWord (dle (Nat.le_of_ble_eq_true rfl) hd0) he14) (dps (Nat.le_of_ble_eq_true rfl) hd0) rfl rfl (Nat.le_of_ble_eq_true rfl) ?_
    refine z_if_eq 124 dX12_partOf_117 rfl (fun hc15 => ?_) (fun hc15 => ?_)
    · replace h := oT hc15 h
      refine z_iconst (M := mX12_partOf) (v := -1) dX12_partOf_124 rfl ?_
      cases h
      exact z_iret dX12_partOf_125 rfl
    · replace h := oF hc15 h
      refine z_iconst (M := mX12_partOf) (v := 0) dX12_partOf_120 rfl ?_
      refine z_goto 125 dX12_partOf_121 rfl ?_
      cases h
      exact z_iret dX12_partOf_125 rfl
  replace h := oF hc16 h
  have zhc2 := i32ne hc2 (z := 40) rfl
  have zhc8 := i32ne hc8 (z := 41) rfl
  have zhc12 := i32ne hc12 (z := 42) rfl
  have zhc16 := i32ne hc16 (z := 43) rfl
  refine z_tableOut 126 dX12_partOf_1 (by omega) rfl ?_
  refine z_iconst (M := mX12_partOf) (v := -1) dX12_partOf_126 rfl ?_
  cases h
  exact z_iret dX12_partOf_127 rfl
theorem ct_Md_partOf {g : GG} {d : Nat} {x1 : Int32} {ν : Nm} {r : Int32} (hd0 : 4 ≤ d)  (h : Md_partOf ν x1 = some r) : Ct g d mX12_partOf [.ref 313, .int x1] (zem ν) (some (.int r), zem ν) := y_entry in_X12_partOf (Nat.le_of_ble_eq_true rfl) rfl (t_Md_partOf hd0 x1 r h)
-- FuseMinutesModel.behindOne()Z
theorem dX12_behindOne_0 : decode cX12_behindOne 0 = .ok (.aload_n 0, 1) := by decide +kernel
theorem dX12_behindOne_1 : decode cX12_behindOne 1 = .ok (.invokevirtual 230, 3) := by decide +kernel
theorem dX12_behindOne_4 : decode cX12_behindOne 4 = .ok (.istore_n 1, 1) := by decide +kernel
theorem dX12_behindOne_5 : decode cX12_behindOne 5 = .ok (.iload_n 1, 1) := by decide +kernel
theorem dX12_behindOne_6 : decode cX12_behindOne 6 = .ok (.ifCond .lt 54, 3) := by decide +kernel
theorem dX12_behindOne_9 : decode cX12_behindOne 9 = .ok (.aload_n 0, 1) := by decide +kernel
theorem dX12_behindOne_10 : decode cX12_behindOne 10 = .ok (.iload_n 1, 1) := by decide +kernel
theorem dX12_behindOne_11 : decode cX12_behindOne 11 = .ok (.invokestatic 181, 3) := by decide +kernel
theorem dX12_behindOne_14 : decode cX12_behindOne 14 = .ok (.iconst 4, 1) := by decide +kernel
theorem dX12_behindOne_15 : decode cX12_behindOne 15 = .ok (.if_icmp .ne 7, 3) := by decide +kernel
theorem dX12_behindOne_18 : decode cX12_behindOne 18 = .ok (.iconst 5, 1) := by decide +kernel
theorem dX12_behindOne_19 : decode cX12_behindOne 19 = .ok (.goto 7, 3) := by decide +kernel
theorem dX12_behindOne_22 : decode cX12_behindOne 22 = .ok (.iload_n 1, 1) := by decide +kernel
theorem dX12_behindOne_23 : decode cX12_behindOne 23 = .ok (.invokestatic 181, 3) := by decide +kernel
theorem dX12_behindOne_26 : decode cX12_behindOne 26 = .ok (.invokevirtual 210, 3) := by decide +kernel
theorem dX12_behindOne_29 : decode cX12_behindOne 29 = .ok (.aload_n 0, 1) := by decide +kernel
theorem dX12_behindOne_30 : decode cX12_behindOne 30 = .ok (.getfield 29, 3) := by decide +kernel
theorem dX12_behindOne_33 : decode cX12_behindOne 33 = .ok (.aload_n 0, 1) := by decide +kernel
theorem dX12_behindOne_34 : decode cX12_behindOne 34 = .ok (.getfield 178, 3) := by decide +kernel
theorem dX12_behindOne_37 : decode cX12_behindOne 37 = .ok (.iload_n 1, 1) := by decide +kernel
theorem dX12_behindOne_38 : decode cX12_behindOne 38 = .ok (.iastore, 1) := by decide +kernel
theorem dX12_behindOne_39 : decode cX12_behindOne 39 = .ok (.aload_n 0, 1) := by decide +kernel
theorem dX12_behindOne_40 : decode cX12_behindOne 40 = .ok (.dup, 1) := by decide +kernel
theorem dX12_behindOne_41 : decode cX12_behindOne 41 = .ok (.getfield 178, 3) := by decide +kernel
theorem dX12_behindOne_44 : decode cX12_behindOne 44 = .ok (.iconst 1, 1) := by decide +kernel
theorem dX12_behindOne_45 : decode cX12_behindOne 45 = .ok (.iadd, 1) := by decide +kernel
theorem dX12_behindOne_46 : decode cX12_behindOne 46 = .ok (.putfield 178, 3) := by decide +kernel
theorem dX12_behindOne_49 : decode cX12_behindOne 49 = .ok (.aload_n 0, 1) := by decide +kernel
theorem dX12_behindOne_50 : decode cX12_behindOne 50 = .ok (.iconst 0, 1) := by decide +kernel
theorem dX12_behindOne_51 : decode cX12_behindOne 51 = .ok (.putfield 207, 3) := by decide +kernel
theorem dX12_behindOne_54 : decode cX12_behindOne 54 = .ok (.aload_n 0, 1) := by decide +kernel
theorem dX12_behindOne_55 : decode cX12_behindOne 55 = .ok (.invokevirtual 198, 3) := by decide +kernel
theorem dX12_behindOne_58 : decode cX12_behindOne 58 = .ok (.iconst 1, 1) := by decide +kernel
theorem dX12_behindOne_59 : decode cX12_behindOne 59 = .ok (.ireturn, 1) := by decide +kernel
theorem dX12_behindOne_60 : decode cX12_behindOne 60 = .ok (.aload_n 0, 1) := by decide +kernel
theorem dX12_behindOne_61 : decode cX12_behindOne 61 = .ok (.invokevirtual 195, 3) := by decide +kernel
theorem dX12_behindOne_64 : decode cX12_behindOne 64 = .ok (.istore_n 2, 1) := by decide +kernel
theorem dX12_behindOne_65 : decode cX12_behindOne 65 = .ok (.aload_n 0, 1) := by decide +kernel
theorem dX12_behindOne_66 : decode cX12_behindOne 66 = .ok (.iload_n 2, 1) := by decide +kernel
theorem dX12_behindOne_67 : decode cX12_behindOne 67 = .ok (.invokevirtual 233, 3) := by decide +kernel
theorem dX12_behindOne_70 : decode cX12_behindOne 70 = .ok (.istore_n 3, 1) := by decide +kernel
theorem dX12_behindOne_71 : decode cX12_behindOne 71 = .ok (.iload_n 3, 1) := by decide +kernel
theorem dX12_behindOne_72 : decode cX12_behindOne 72 = .ok (.ifCond .ge 5, 3) := by decide +kernel
theorem dX12_behindOne_75 : decode cX12_behindOne 75 = .ok (.iconst 0, 1) := by decide +kernel
theorem dX12_behindOne_76 : decode cX12_behindOne 76 = .ok (.ireturn, 1) := by decide +kernel
theorem dX12_behindOne_77 : decode cX12_behindOne 77 = .ok (.aload_n 0, 1) := by decide +kernel
theorem dX12_behindOne_78 : decode cX12_behindOne 78 = .ok (.iconst 1, 1) := by decide +kernel
theorem dX12_behindOne_79 : decode cX12_behindOne 79 = .ok (.invokevirtual 210, 3) := by decide +kernel
theorem dX12_behindOne_82 : decode cX12_behindOne 82 = .ok (.aload_n 0, 1) := by decide +kernel
theorem dX12_behindOne_83 : decode cX12_behindOne 83 = .ok (.invokevirtual 198, 3) := by decide +kernel
theorem dX12_behindOne_86 : decode cX12_behindOne 86 = .ok (.iload_n 3, 1) := by decide +kernel
theorem dX12_behindOne_87 : decode cX12_behindOne 87 = .ok (.ifCond .le 20, 3) := by decide +kernel
theorem dX12_behindOne_90 : decode cX12_behindOne 90 = .ok (.aload_n 0, 1) := by decide +kernel
theorem dX12_behindOne_91 : decode cX12_behindOne 91 = .ok (.getfield 29, 3) := by decide +kernel
theorem dX12_behindOne_94 : decode cX12_behindOne 94 = .ok (.aload_n 0, 1) := by decide +kernel
theorem dX12_behindOne_95 : decode cX12_behindOne 95 = .ok (.invokevirtual 191, 3) := by decide +kernel
theorem dX12_behindOne_98 : decode cX12_behindOne 98 = .ok (.iload_n 3, 1) := by decide +kernel
theorem dX12_behindOne_99 : decode cX12_behindOne 99 = .ok (.iastore, 1) := by decide +kernel
theorem dX12_behindOne_100 : decode cX12_behindOne 100 = .ok (.aload_n 0, 1) := by decide +kernel
theorem dX12_behindOne_101 : decode cX12_behindOne 101 = .ok (.iconst 0, 1) := by decide +kernel
theorem dX12_behindOne_102 : decode cX12_behindOne 102 = .ok (.putfield 207, 3) := by decide +kernel
theorem dX12_behindOne_105 : decode cX12_behindOne 105 = .ok (.iconst 1, 1) := by decide +kernel
theorem dX12_behindOne_106 : decode cX12_behindOne 106 = .ok (.ireturn, 1) := by decide +kernel
theorem dX12_behindOne_107 : decode cX12_behindOne 107 = .ok (.aload_n 0, 1) := by decide +kernel
theorem dX12_behindOne_108 : decode cX12_behindOne 108 = .ok (.dup, 1) := by decide +kernel
theorem dX12_behindOne_109 : decode cX12_behindOne 109 = .ok (.getfield 188, 3) := by decide +kernel
theorem dX12_behindOne_112 : decode cX12_behindOne 112 = .ok (.iconst 1, 1) := by decide +kernel
theorem dX12_behindOne_113 : decode cX12_behindOne 113 = .ok (.isub, 1) := by decide +kernel
theorem dX12_behindOne_114 : decode cX12_behindOne 114 = .ok (.putfield 188, 3) := by decide +kernel
theorem dX12_behindOne_117 : decode cX12_behindOne 117 = .ok (.aload_n 0, 1) := by decide +kernel
theorem dX12_behindOne_118 : decode cX12_behindOne 118 = .ok (.dup, 1) := by decide +kernel
theorem dX12_behindOne_119 : decode cX12_behindOne 119 = .ok (.getfield 178, 3) := by decide +kernel
theorem dX12_behindOne_122 : decode cX12_behindOne 122 = .ok (.iconst 1, 1) := by decide +kernel
theorem dX12_behindOne_123 : decode cX12_behindOne 123 = .ok (.isub, 1) := by decide +kernel
theorem dX12_behindOne_124 : decode cX12_behindOne 124 = .ok (.putfield 178, 3) := by decide +kernel
theorem dX12_behindOne_127 : decode cX12_behindOne 127 = .ok (.iload_n 2, 1) := by decide +kernel
theorem dX12_behindOne_128 : decode cX12_behindOne 128 = .ok (.bipush 43, 2) := by decide +kernel
theorem dX12_behindOne_130 : decode cX12_behindOne 130 = .ok (.if_icmp .ne 9, 3) := by decide +kernel
theorem dX12_behindOne_133 : decode cX12_behindOne 133 = .ok (.aload_n 0, 1) := by decide +kernel
theorem dX12_behindOne_134 : decode cX12_behindOne 134 = .ok (.iconst 3, 1) := by decide +kernel
theorem dX12_behindOne_135 : decode cX12_behindOne 135 = .ok (.iconst 0, 1) := by decide +kernel
theorem dX12_behindOne_136 : decode cX12_behindOne 136 = .ok (.invokevirtual 184, 3) := by decide +kernel
theorem dX12_behindOne_139 : decode cX12_behindOne 139 = .ok (.aload_n 0, 1) := by decide +kernel
theorem dX12_behindOne_140 : decode cX12_behindOne 140 = .ok (.bipush 7, 2) := by decide +kernel
theorem dX12_behindOne_142 : decode cX12_behindOne 142 = .ok (.invokevirtual 210, 3) := by decide +kernel
theorem dX12_behindOne_145 : decode cX12_behindOne 145 = .ok (.iconst 1, 1) := by decide +kernel
theorem dX12_behindOne_146 : decode cX12_behindOne 146 = .ok (.ireturn, 1) := by decide +kernel
def Md_behindOne_26 (x1 : Int32) (s0 : Int32) (ν : Nm) : Option (Bool × Nm) :=
  (Md_settle s0 ν).bind fun v1 =>
  if inb (gi v1 313 16) 160 then
  (Md_nextToken (si (si (si v1 318 (gi v1 313 16).toNatClampNeg x1) 313 16 ((gi (si v1 318 (gi v1 313 16).toNatClampNeg x1) 313 16) + (1 : Int32))) 313 18 (0 : Int32))).bind fun v3 =>
  some (true, v3)
  else none
set_option maxRecDepth 100000 in
set_option maxHeartbeats 4000000 in
theorem t_Md_behindOne_26 {g : GG} {d : Nat} (hd0 : 5 ≤ d) : ∀ (x1 : Int32) (s0 : Int32) (ν : Nm) (r : (Bool × Nm)), Md_behindOne_26 x1 s0 ν = some r → Z g d (0, 0) mX12_behindOne 333 0 0 26 [(0, .ref 313), (1, .int x1)] [.int s0, .ref 313] (zem ν) (zF g (some (.int (b2i r.1)), zem r.2)) := by
  intro x1 s0 ν r h
  unfold Md_behindOne_26 at h
  obtain ⟨v1, he1, h⟩ := obind h
  refine y_Vv (M := mX12_behindOne) (Y := mX12_settle) (d2 := d - 1) (As := [.int s0]) (st := []) dX12_behindOne_26 mlRX12_210 cv_X12_settle zk_313 (ct_Md_settle (dle (Nat.le_of_ble_eq_true rfl) hd0) he1) (dps (Nat.le_of_ble_eq_true rfl) hd0) rfl rfl (Nat.le_of_ble_eq_true rfl) ?_
  refine z_aload_n dX12_behindOne_29 0 rfl ?_
  refine y_getR (M := mX12_behindOne) (r := 318) dX12_behindOne_30 zk_313 flRX12_29 fr_10_15.1 (fr_10_15.2 _) ?_
  refine z_aload_n dX12_behindOne_33 0 rfl ?_
  refine y_getI dX12_behindOne_34 zk_313 flRX12_178 ?_
  refine z_iload_n dX12_behindOne_37 1 rfl ?_
  obtain ⟨hi2, h⟩ := oif h
  refine y_iast (M := mX12_behindOne) (jj := (gi v1 313 16).toNatClampNeg) dX12_behindOne_38 zk_318 hi2 rfl ?_
  refine z_aload_n dX12_behindOne_39 0 rfl ?_
  refine z_dup dX12_behindOne_40 rfl ?_
  refine y_getI dX12_behindOne_41 zk_313 flRX12_178 ?_
  refine z_iconst (M := mX12_behindOne) (v := 1) dX12_behindOne_44 rfl ?_
  refine z_iadd dX12_behindOne_45 ?_
  refine y_putI dX12_behindOne_46 zk_313 flRX12_178 ⟨rfl, rfl⟩ ?_
  refine z_aload_n dX12_behindOne_49 0 rfl ?_
  refine z_iconst (M := mX12_behindOne) (v := 0) dX12_behindOne_50 rfl ?_
  refine y_putI dX12_behindOne_51 zk_313 flRX12_207 ⟨rfl, rfl⟩ ?_
  refine z_aload_n dX12_behindOne_54 0 rfl ?_
  obtain ⟨v3, he3, h⟩ := obind h
  refine y_Vv (M := mX12_behindOne) (Y := mX12_nextToken) (d2 := d - 1) (As := []) (st := []) dX12_behindOne_55 mlRX12_198 cv_X12_nextToken zk_313 (ct_Md_nextToken (dle (Nat.le_of_ble_eq_true rfl) hd0) he3) (dps (Nat.le_of_ble_eq_true rfl) hd0) rfl rfl (Nat.le_of_ble_eq_true rfl) ?_
  refine z_iconst (M := mX12_behindOne) (v := 1) dX12_behindOne_58 rfl ?_
  cases h
  exact z_zret dX12_behindOne_59 rfl rfl
def Md_behindOne_139 (ν : Nm) : Option (Bool × Nm) :=
  (Md_settle (7 : Int32) ν).bind fun v1 =>
  some (true, v1)
set_option maxRecDepth 100000 in
set_option maxHeartbeats 4000000 in
theorem t_Md_behindOne_139 {g : GG} {d : Nat} (hd0 : 5 ≤ d) : ∀ (ν : Nm) (r : (Bool × Nm)), Md_behindOne_139 ν = some r → Z g d (0, 0) mX12_behindOne 333 0 0 139 [(0, .ref 313)] [] (zem ν) (zF g (some (.int (b2i r.1)), zem r.2)) := by
  intro ν r h
  unfold Md_behindOne_139 at h
  refine z_aload_n dX12_behindOne_139 0 rfl ?_
  refine z_bipush (M := mX12_behindOne) (v := 7) dX12_behindOne_140 rfl ?_
  obtain ⟨v1, he1, h⟩ := obind h
  refine y_Vv (M := mX12_behindOne) (Y := mX12_settle) (d2 := d - 1) (As := [.int (7 : Int32)]) (st := []) dX12_behindOne_142 mlRX12_210 cv_X12_settle zk_313 (ct_Md_settle (dle (Nat.le_of_ble_eq_true rfl) hd0) he1) (dps (Nat.le_of_ble_eq_true rfl) hd0) rfl rfl (Nat.le_of_ble_eq_true rfl) ?_
  refine z_iconst (M := mX12_behindOne) (v := 1) dX12_behindOne_145 rfl ?_
  cases h
  exact z_zret dX12_behindOne_146 rfl rfl
def Md_behindOne (ν : Nm) : Option (Bool × Nm) :=
  (Md_betweenOf ν).bind fun v1 =>
  (if v1 < 0 then
    (Md_openNow ν).bind fun v3 =>
    (Md_partOf ν v3).bind fun v4 =>
    (if 0 ≤ v4 then
      (Md_settle (1 : Int32) ν).bind fun v6 =>
      (Md_nextToken v6).bind fun v7 =>
      (if v4 ≤ 0 then
        (if ¬ v3 = (43 : Int32) then
          Md_behindOne_139 (si (si v7 313 17 ((gi v7 313 17) - (1 : Int32))) 313 16 ((gi (si v7 313 17 ((gi v7 313 17) - (1 : Int32))) 313 16) - (1 : Int32)))
        else
          (Md_emit (3 : Int32) (0 : Int32) (si (si v7 313 17 ((gi v7 313 17) - (1 : Int32))) 313 16 ((gi (si v7 313 17 ((gi v7 313 17) - (1 : Int32))) 313 16) - (1 : Int32)))).bind fun v10 =>
          Md_behindOne_139 v10)
      else
        (Md_openAt v7).bind fun v11 =>
        if inb v11 160 then
        some (true, (si (si v7 318 v11.toNatClampNeg v4) 313 18 (0 : Int32)))
        else none)
    else
      some (false, ν))
  else
    (Md_rank v1).bind fun v13 =>
    (if ¬ v13 = (4 : Int32) then
      (Md_rank v1).bind fun v15 =>
      Md_behindOne_26 v1 v15 ν
    else
      Md_behindOne_26 v1 (5 : Int32) ν))
set_option maxRecDepth 100000 in
set_option maxHeartbeats 4000000 in
theorem t_Md_behindOne {g : GG} {d : Nat} (hd0 : 5 ≤ d) : ∀ (ν : Nm) (r : (Bool × Nm)), Md_behindOne ν = some r → Z g d (0, 0) mX12_behindOne 333 0 0 0 [(0, .ref 313)] [] (zem ν) (zF g (some (.int (b2i r.1)), zem r.2)) := by
  intro ν r h
  unfold Md_behindOne at h
  refine z_aload_n dX12_behindOne_0 0 rfl ?_
  obtain ⟨v1, he1, h⟩ := obind h
  refine y_Vi (M := mX12_behindOne) (Y := mX12_betweenOf) (d2 := d - 1) (As := []) (st := []) dX12_behindOne_1 mlRX12_230 cv_X12_betweenOf zk_313 (ct_Md_betweenOf (dle (Nat.le_of_ble_eq_true rfl) hd0) he1) (dps (Nat.le_of_ble_eq_true rfl) hd0) rfl rfl (Nat.le_of_ble_eq_true rfl) ?_
  refine z_istore_n (M := mX12_behindOne) (lv2 := [(1, .int v1), (0, .ref 313)]) dX12_behindOne_4 (Nat.le_of_ble_eq_true rfl) rfl ?_
  refine z_iload_n dX12_behindOne_5 0 rfl ?_
  refine z_if_lt 60 dX12_behindOne_6 rfl (fun hc2 => ?_) (fun hc2 => ?_)
  · replace h := oT hc2 h
    refine z_aload_n dX12_behindOne_60 1 rfl ?_
    obtain ⟨v3, he3, h⟩ := obind h
    refine y_Vi (M := mX12_behindOne) (Y := mX12_openNow) (d2 := d - 1) (As := []) (st := []) dX12_behindOne_61 mlRX12_195 cv_X12_openNow zk_313 (ct_Md_openNow (dle (Nat.le_of_ble_eq_true rfl) hd0) he3) (dps (Nat.le_of_ble_eq_true rfl) hd0) rfl rfl (Nat.le_of_ble_eq_true rfl) ?_
    refine z_istore_n (M := mX12_behindOne) (lv2 := [(2, .int v3), (1, .int v1), (0, .ref 313)]) dX12_behindOne_64 (Nat.le_of_ble_eq_true rfl) rfl ?_
    refine z_aload_n dX12_behindOne_65 2 rfl ?_
    refine z_iload_n dX12_behindOne_66 0 rfl ?_
    obtain ⟨v4, he4, h⟩ := obind h
    refine y_Vi (M := mX12_behindOne) (Y := mX12_partOf) (d2 := d - 1) (As := [.int v3]) (st := []) dX12_behindOne_67 mlRX12_233 cv_X12_partOf zk_313 (ct_Md_partOf (dle (Nat.le_of_ble_eq_true rfl) hd0) he4) (dps (Nat.le_of_ble_eq_true rfl) hd0) rfl rfl (Nat.le_of_ble_eq_true rfl) ?_
    refine z_istore_n (M := mX12_behindOne) (lv2 := [(3, .int v4), (2, .int v3), (1, .int v1), (0, .ref 313)]) dX12_behindOne_70 (Nat.le_of_ble_eq_true rfl) rfl ?_
    refine z_iload_n dX12_behindOne_71 0 rfl ?_
    refine z_if_ge 77 dX12_behindOne_72 rfl (fun hc5 => ?_) (fun hc5 => ?_)
    · replace h := oT hc5 h
      refine z_aload_n dX12_behindOne_77 3 rfl ?_
      refine z_iconst (M := mX12_behindOne) (v := 1) dX12_behindOne_78 rfl ?_
      obtain ⟨v6, he6, h⟩ := obind h
      refine y_Vv (M := mX12_behindOne) (Y := mX12_settle) (d2 := d - 1) (As := [.int (1 : Int32)]) (st := []) dX12_behindOne_79 mlRX12_210 cv_X12_settle zk_313 (ct_Md_settle (dle (Nat.le_of_ble_eq_true rfl) hd0) he6) (dps (Nat.le_of_ble_eq_true rfl) hd0) rfl rfl (Nat.le_of_ble_eq_true rfl) ?_
      refine z_aload_n dX12_behindOne_82 3 rfl ?_
      obtain ⟨v7, he7, h⟩ := obind h
      refine y_Vv (M := mX12_behindOne) (Y := mX12_nextToken) (d2 := d - 1) (As := []) (st := []) dX12_behindOne_83 mlRX12_198 cv_X12_nextToken zk_313 (ct_Md_nextToken (dle (Nat.le_of_ble_eq_true rfl) hd0) he7) (dps (Nat.le_of_ble_eq_true rfl) hd0) rfl rfl (Nat.le_of_ble_eq_true rfl) ?_
      refine z_iload_n dX12_behindOne_86 0 rfl ?_
      refine z_if_le 107 dX12_behindOne_87 rfl (fun hc8 => ?_) (fun hc8 => ?_)
      · replace h := oT hc8 h
        refine z_aload_n dX12_behindOne_107 3 rfl ?_
        refine z_dup dX12_behindOne_108 rfl ?_
        refine y_getI dX12_behindOne_109 zk_313 flRX12_188 ?_
        refine z_iconst (M := mX12_behindOne) (v := 1) dX12_behindOne_112 rfl ?_
        refine z_isub dX12_behindOne_113 ?_
        refine y_putI dX12_behindOne_114 zk_313 flRX12_188 ⟨rfl, rfl⟩ ?_
        refine z_aload_n dX12_behindOne_117 3 rfl ?_
        refine z_dup dX12_behindOne_118 rfl ?_
        refine y_getI dX12_behindOne_119 zk_313 flRX12_178 ?_
        refine z_iconst (M := mX12_behindOne) (v := 1) dX12_behindOne_122 rfl ?_
        refine z_isub dX12_behindOne_123 ?_
        refine y_putI dX12_behindOne_124 zk_313 flRX12_178 ⟨rfl, rfl⟩ ?_
        refine z_iload_n dX12_behindOne_127 1 rfl ?_
        refine z_bipush (M := mX12_behindOne) (v := 43) dX12_behindOne_128 rfl ?_
        refine z_icmp_ne 139 dX12_behindOne_130 rfl (fun hc9 => ?_) (fun hc9 => ?_)
        · replace h := oT hc9 h
          refine z_lv (lv2 := [(0, .ref 313)]) [3] rfl ?_
          exact t_Md_behindOne_139 hd0  (si (si v7 313 17 ((gi v7 313 17) - (1 : Int32))) 313 16 ((gi (si v7 313 17 ((gi v7 313 17) - (1 : Int32))) 313 16) - (1 : Int32))) _ h
        · replace h := oFn hc9 h
          refine z_aload_n dX12_behindOne_133 3 rfl ?_
          refine z_iconst (M := mX12_behindOne) (v := 3) dX12_behindOne_134 rfl ?_
          refine z_iconst (M := mX12_behindOne) (v := 0) dX12_behindOne_135 rfl ?_
          obtain ⟨v10, he10, h⟩ := obind h
          refine y_Vv (M := mX12_behindOne) (Y := mX12_emit) (d2 := d - 1) (As := [.int (3 : Int32), .int (0 : Int32)]) (st := []) dX12_behindOne_136 mlRX12_184 cv_X12_emit zk_313 (ct_Md_emit (dle (Nat.le_of_ble_eq_true rfl) hd0) he10) (dps (Nat.le_of_ble_eq_true rfl) hd0) rfl rfl (Nat.le_of_ble_eq_true rfl) ?_
          refine z_lv (lv2 := [(0, .ref 313)]) [3] rfl ?_
          exact t_Md_behindOne_139 hd0  v10 _ h
      · replace h := oF hc8 h
        refine z_aload_n dX12_behindOne_90 3 rfl ?_
        refine y_getR (M := mX12_behindOne) (r := 318) dX12_behindOne_91 zk_313 flRX12_29 fr_10_15.1 (fr_10_15.2 _) ?_
        refine z_aload_n dX12_behindOne_94 3 rfl ?_
        obtain ⟨v11, he11, h⟩ := obind h
        refine y_Vi (M := mX12_behindOne) (Y := mX12_openAt) (d2 := d - 1) (As := []) (st := [.ref 318]) dX12_behindOne_95 mlRX12_191 cv_X12_openAt zk_313 (ct_Md_openAt (dle (Nat.le_of_ble_eq_true rfl) hd0) he11) (dps (Nat.le_of_ble_eq_true rfl) hd0) rfl rfl (Nat.le_of_ble_eq_true rfl) ?_
        refine z_iload_n dX12_behindOne_98 0 rfl ?_
        obtain ⟨hi12, h⟩ := oif h
        refine y_iast (M := mX12_behindOne) (jj := v11.toNatClampNeg) dX12_behindOne_99 zk_318 hi12 rfl ?_
        refine z_aload_n dX12_behindOne_100 3 rfl ?_
        refine z_iconst (M := mX12_behindOne) (v := 0) dX12_behindOne_101 rfl ?_
        refine y_putI dX12_behindOne_102 zk_313 flRX12_207 ⟨rfl, rfl⟩ ?_
        refine z_iconst (M := mX12_behindOne) (v := 1) dX12_behindOne_105 rfl ?_
        cases h
        exact z_zret dX12_behindOne_106 rfl rfl
    · replace h := oF hc5 h
      refine z_iconst (M := mX12_behindOne) (v := 0) dX12_behindOne_75 rfl ?_
      cases h
      exact z_zret dX12_behindOne_76 rfl rfl
  · replace h := oF hc2 h
    refine z_aload_n dX12_behindOne_9 1 rfl ?_
    refine z_iload_n dX12_behindOne_10 0 rfl ?_
    obtain ⟨v13, he13, h⟩ := obind h
    refine y_Si (M := mX12_behindOne) (Y := mX12_rank) (d2 := d - 1) (As := [.int v1]) (st := [.ref 313]) dX12_behindOne_11 mlRX12_181 cv_X12_rank (ct_Md_rank (dle (Nat.le_of_ble_eq_true rfl) hd0) he13) (dps (Nat.le_of_ble_eq_true rfl) hd0) rfl rfl (Nat.le_of_ble_eq_true rfl) ?_
    refine z_iconst (M := mX12_behindOne) (v := 4) dX12_behindOne_14 rfl ?_
    refine z_icmp_ne 22 dX12_behindOne_15 rfl (fun hc14 => ?_) (fun hc14 => ?_)
    · replace h := oT hc14 h
      refine z_iload_n dX12_behindOne_22 0 rfl ?_
      obtain ⟨v15, he15, h⟩ := obind h
      refine y_Si (M := mX12_behindOne) (Y := mX12_rank) (d2 := d - 1) (As := [.int v1]) (st := [.ref 313]) dX12_behindOne_23 mlRX12_181 cv_X12_rank (ct_Md_rank (dle (Nat.le_of_ble_eq_true rfl) hd0) he15) (dps (Nat.le_of_ble_eq_true rfl) hd0) rfl rfl (Nat.le_of_ble_eq_true rfl) ?_
      refine z_lv (lv2 := [(0, .ref 313), (1, .int v1)]) [1, 0] rfl ?_
      exact t_Md_behindOne_26 hd0  v1 v15 ν _ h
    · replace h := oFn hc14 h
      refine z_iconst (M := mX12_behindOne) (v := 5) dX12_behindOne_18 rfl ?_
      refine z_goto 26 dX12_behindOne_19 rfl ?_
      refine z_lv (lv2 := [(0, .ref 313), (1, .int v1)]) [1, 0] rfl ?_
      exact t_Md_behindOne_26 hd0  v1 (5 : Int32) ν _ h
theorem ct_Md_behindOne {g : GG} {d : Nat} {ν : Nm} {r : (Bool × Nm)} (hd0 : 5 ≤ d)  (h : Md_behindOne ν = some r) : Ct g d mX12_behindOne [.ref 313] (zem ν) (some (.int (b2i r.1)), zem r.2) := y_entry in_X12_behindOne (Nat.le_of_ble_eq_true rfl) rfl (t_Md_behindOne hd0 ν r h)
-- FuseMinutesModel.summed()I
theorem dX12_summed_0 : decode cX12_summed 0 = .ok (.aload_n 0, 1) := by decide +kernel
theorem dX12_summed_1 : decode cX12_summed 1 = .ok (.iconst 0, 1) := by decide +kernel
theorem dX12_summed_2 : decode cX12_summed 2 = .ok (.putfield 178, 3) := by decide +kernel
theorem dX12_summed_5 : decode cX12_summed 5 = .ok (.aload_n 0, 1) := by decide +kernel
theorem dX12_summed_6 : decode cX12_summed 6 = .ok (.iconst 0, 1) := by decide +kernel
theorem dX12_summed_7 : decode cX12_summed 7 = .ok (.putfield 188, 3) := by decide +kernel
theorem dX12_summed_10 : decode cX12_summed 10 = .ok (.aload_n 0, 1) := by decide +kernel
theorem dX12_summed_11 : decode cX12_summed 11 = .ok (.iconst 0, 1) := by decide +kernel
theorem dX12_summed_12 : decode cX12_summed 12 = .ok (.putfield 207, 3) := by decide +kernel
theorem dX12_summed_15 : decode cX12_summed 15 = .ok (.aload_n 0, 1) := by decide +kernel
theorem dX12_summed_16 : decode cX12_summed 16 = .ok (.getfield 207, 3) := by decide +kernel
theorem dX12_summed_19 : decode cX12_summed 19 = .ok (.ifCond .eq 29, 3) := by decide +kernel
theorem dX12_summed_22 : decode cX12_summed 22 = .ok (.aload_n 0, 1) := by decide +kernel
theorem dX12_summed_23 : decode cX12_summed 23 = .ok (.invokevirtual 236, 3) := by decide +kernel
theorem dX12_summed_26 : decode cX12_summed 26 = .ok (.ifCond .eq 6, 3) := by decide +kernel
theorem dX12_summed_29 : decode cX12_summed 29 = .ok (.goto (-14), 3) := by decide +kernel
theorem dX12_summed_32 : decode cX12_summed 32 = .ok (.aload_n 0, 1) := by decide +kernel
theorem dX12_summed_33 : decode cX12_summed 33 = .ok (.invokevirtual 195, 3) := by decide +kernel
theorem dX12_summed_36 : decode cX12_summed 36 = .ok (.ifCond .lt 5, 3) := by decide +kernel
theorem dX12_summed_39 : decode cX12_summed 39 = .ok (.iconst 1, 1) := by decide +kernel
theorem dX12_summed_40 : decode cX12_summed 40 = .ok (.ireturn, 1) := by decide +kernel
theorem dX12_summed_41 : decode cX12_summed 41 = .ok (.aload_n 0, 1) := by decide +kernel
theorem dX12_summed_42 : decode cX12_summed 42 = .ok (.iconst 1, 1) := by decide +kernel
theorem dX12_summed_43 : decode cX12_summed 43 = .ok (.invokevirtual 210, 3) := by decide +kernel
theorem dX12_summed_46 : decode cX12_summed 46 = .ok (.iconst 0, 1) := by decide +kernel
theorem dX12_summed_47 : decode cX12_summed 47 = .ok (.ireturn, 1) := by decide +kernel
theorem dX12_summed_48 : decode cX12_summed 48 = .ok (.aload_n 0, 1) := by decide +kernel
theorem dX12_summed_49 : decode cX12_summed 49 = .ok (.invokevirtual 239, 3) := by decide +kernel
theorem dX12_summed_52 : decode cX12_summed 52 = .ok (.istore_n 1, 1) := by decide +kernel
theorem dX12_summed_53 : decode cX12_summed 53 = .ok (.iload_n 1, 1) := by decide +kernel
theorem dX12_summed_54 : decode cX12_summed 54 = .ok (.ifCond .eq 5, 3) := by decide +kernel
theorem dX12_summed_57 : decode cX12_summed 57 = .ok (.iload_n 1, 1) := by decide +kernel
theorem dX12_summed_58 : decode cX12_summed 58 = .ok (.ireturn, 1) := by decide +kernel
theorem dX12_summed_59 : decode cX12_summed 59 = .ok (.goto (-44), 3) := by decide +kernel
def Md_summed_15 : Nat → Nm → Option (Int32 × Nm)
  | 0, _ => none
  | f + 1, ν =>
    (if (gi ν 313 18) = 0 then
      (Md_beginOne ν).bind fun v2 =>
      (if v2.1 = 0 then
        (Md_summed_15 f) v2.2
      else
        some (v2.1, v2.2))
    else
      (Md_behindOne ν).bind fun v4 =>
      (if (b2i v4.1) = 0 then
        (Md_openNow v4.2).bind fun v6 =>
        (if v6 < 0 then
          (Md_settle (1 : Int32) v4.2).bind fun v8 =>
          some ((0 : Int32), v8)
        else
          some ((1 : Int32), v4.2))
      else
        (Md_summed_15 f) v4.2))
set_option maxRecDepth 100000 in
set_option maxHeartbeats 4000000 in
theorem t_Md_summed_15 {g : GG} {d : Nat} (hd0 : 7 ≤ d) : ∀ (f : Nat), ∀ (ν : Nm) (r : (Int32 × Nm)), Md_summed_15 f ν = some r → Z g d (0, 0) mX12_summed 333 0 0 15 [(0, .ref 313)] [] (zem ν) (zF g (some (.int r.1), zem r.2)) := by
  intro f
  induction f with
  | zero =>
    intro ν r h
    cases h
  | succ f ih =>
    intro ν r h
    rw [Md_summed_15] at h
    refine z_aload_n dX12_summed_15 0 rfl ?_
    refine y_getI dX12_summed_16 zk_313 flRX12_207 ?_
    refine z_if_eq 48 dX12_summed_19 rfl (fun hc1 => ?_) (fun hc1 => ?_)
    · replace h := oT hc1 h
      refine z_aload_n dX12_summed_48 0 rfl ?_
      obtain ⟨v2, he2, h⟩ := obind h
      refine y_Vi (M := mX12_summed) (Y := mX12_beginOne) (d2 := d - 1) (As := []) (st := []) dX12_summed_49 mlRX12_239 cv_X12_beginOne zk_313 (ct_Md_beginOne (dle (Nat.le_of_ble_eq_true rfl) hd0) he2) (dps (Nat.le_of_ble_eq_true rfl) hd0) rfl rfl (Nat.le_of_ble_eq_true rfl) ?_
      refine z_istore_n (M := mX12_summed) (lv2 := [(1, .int v2.1), (0, .ref 313)]) dX12_summed_52 (Nat.le_of_ble_eq_true rfl) rfl ?_
      refine z_iload_n dX12_summed_53 0 rfl ?_
      refine z_if_eq 59 dX12_summed_54 rfl (fun hc3 => ?_) (fun hc3 => ?_)
      · replace h := oT hc3 h
        refine z_goto 15 dX12_summed_59 rfl ?_
        refine z_lv (lv2 := [(0, .ref 313)]) [1] rfl ?_
        exact ih v2.2 _ h
      · replace h := oF hc3 h
        refine z_iload_n dX12_summed_57 0 rfl ?_
        cases h
        exact z_iret dX12_summed_58 rfl
    · replace h := oF hc1 h
      refine z_aload_n dX12_summed_22 0 rfl ?_
      obtain ⟨v4, he4, h⟩ := obind h
      refine y_Vi (M := mX12_summed) (Y := mX12_behindOne) (d2 := d - 1) (As := []) (st := []) dX12_summed_23 mlRX12_236 cv_X12_behindOne zk_313 (ct_Md_behindOne (dle (Nat.le_of_ble_eq_true rfl) hd0) he4) (dps (Nat.le_of_ble_eq_true rfl) hd0) rfl rfl (Nat.le_of_ble_eq_true rfl) ?_
      refine z_if_eq 32 dX12_summed_26 rfl (fun hc5 => ?_) (fun hc5 => ?_)
      · replace h := oT hc5 h
        refine z_aload_n dX12_summed_32 0 rfl ?_
        obtain ⟨v6, he6, h⟩ := obind h
        refine y_Vi (M := mX12_summed) (Y := mX12_openNow) (d2 := d - 1) (As := []) (st := []) dX12_summed_33 mlRX12_195 cv_X12_openNow zk_313 (ct_Md_openNow (dle (Nat.le_of_ble_eq_true rfl) hd0) he6) (dps (Nat.le_of_ble_eq_true rfl) hd0) rfl rfl (Nat.le_of_ble_eq_true rfl) ?_
        refine z_if_lt 41 dX12_summed_36 rfl (fun hc7 => ?_) (fun hc7 => ?_)
        · replace h := oT hc7 h
          refine z_aload_n dX12_summed_41 0 rfl ?_
          refine z_iconst (M := mX12_summed) (v := 1) dX12_summed_42 rfl ?_
          obtain ⟨v8, he8, h⟩ := obind h
          refine y_Vv (M := mX12_summed) (Y := mX12_settle) (d2 := d - 1) (As := [.int (1 : Int32)]) (st := []) dX12_summed_43 mlRX12_210 cv_X12_settle zk_313 (ct_Md_settle (dle (Nat.le_of_ble_eq_true rfl) hd0) he8) (dps (Nat.le_of_ble_eq_true rfl) hd0) rfl rfl (Nat.le_of_ble_eq_true rfl) ?_
          refine z_iconst (M := mX12_summed) (v := 0) dX12_summed_46 rfl ?_
          cases h
          exact z_iret dX12_summed_47 rfl
        · replace h := oF hc7 h
          refine z_iconst (M := mX12_summed) (v := 1) dX12_summed_39 rfl ?_
          cases h
          exact z_iret dX12_summed_40 rfl
      · replace h := oF hc5 h
        refine z_goto 15 dX12_summed_29 rfl ?_
        exact ih v4.2 _ h
def Md_summed (ν : Nm) : Option (Int32 × Nm) :=
  Md_summed_15 FU (si (si (si ν 313 16 (0 : Int32)) 313 17 (0 : Int32)) 313 18 (0 : Int32))
set_option maxRecDepth 100000 in
set_option maxHeartbeats 4000000 in
theorem t_Md_summed {g : GG} {d : Nat} (hd0 : 7 ≤ d) : ∀ (ν : Nm) (r : (Int32 × Nm)), Md_summed ν = some r → Z g d (0, 0) mX12_summed 333 0 0 0 [(0, .ref 313)] [] (zem ν) (zF g (some (.int r.1), zem r.2)) := by
  intro ν r h
  unfold Md_summed at h
  refine z_aload_n dX12_summed_0 0 rfl ?_
  refine z_iconst (M := mX12_summed) (v := 0) dX12_summed_1 rfl ?_
  refine y_putI dX12_summed_2 zk_313 flRX12_178 ⟨rfl, rfl⟩ ?_
  refine z_aload_n dX12_summed_5 0 rfl ?_
  refine z_iconst (M := mX12_summed) (v := 0) dX12_summed_6 rfl ?_
  refine y_putI dX12_summed_7 zk_313 flRX12_188 ⟨rfl, rfl⟩ ?_
  refine z_aload_n dX12_summed_10 0 rfl ?_
  refine z_iconst (M := mX12_summed) (v := 0) dX12_summed_11 rfl ?_
  refine y_putI dX12_summed_12 zk_313 flRX12_207 ⟨rfl, rfl⟩ ?_
  exact t_Md_summed_15 hd0 FU (si (si (si ν 313 16 (0 : Int32)) 313 17 (0 : Int32)) 313 18 (0 : Int32)) _ h
theorem ct_Md_summed {g : GG} {d : Nat} {ν : Nm} {r : (Int32 × Nm)} (hd0 : 7 ≤ d)  (h : Md_summed ν = some r) : Ct g d mX12_summed [.ref 313] (zem ν) (some (.int r.1), zem r.2) := y_entry in_X12_summed (Nat.le_of_ble_eq_true rfl) rfl (t_Md_summed hd0 ν r h)
-- FuseMinutesModel.lawClause(I)I
theorem dX12_lawClause_0 : decode cX12_lawClause 0 = .ok (.aload_n 0, 1) := by decide +kernel
theorem dX12_lawClause_1 : decode cX12_lawClause 1 = .ok (.getfield 16, 3) := by decide +kernel
theorem dX12_lawClause_4 : decode cX12_lawClause 4 = .ok (.iload_n 1, 1) := by decide +kernel
theorem dX12_lawClause_5 : decode cX12_lawClause 5 = .ok (.iconst 1, 1) := by decide +kernel
theorem dX12_lawClause_6 : decode cX12_lawClause 6 = .ok (.iadd, 1) := by decide +kernel
theorem dX12_lawClause_7 : decode cX12_lawClause 7 = .ok (.aload_n 0, 1) := by decide +kernel
theorem dX12_lawClause_8 : decode cX12_lawClause 8 = .ok (.getfield 175, 3) := by decide +kernel
theorem dX12_lawClause_11 : decode cX12_lawClause 11 = .ok (.iastore, 1) := by decide +kernel
theorem dX12_lawClause_12 : decode cX12_lawClause 12 = .ok (.aload_n 0, 1) := by decide +kernel
theorem dX12_lawClause_13 : decode cX12_lawClause 13 = .ok (.invokevirtual 242, 3) := by decide +kernel
theorem dX12_lawClause_16 : decode cX12_lawClause 16 = .ok (.istore_n 2, 1) := by decide +kernel
theorem dX12_lawClause_17 : decode cX12_lawClause 17 = .ok (.aload_n 0, 1) := by decide +kernel
theorem dX12_lawClause_18 : decode cX12_lawClause 18 = .ok (.getfield 16, 3) := by decide +kernel
theorem dX12_lawClause_21 : decode cX12_lawClause 21 = .ok (.iload_n 1, 1) := by decide +kernel
theorem dX12_lawClause_22 : decode cX12_lawClause 22 = .ok (.iconst 2, 1) := by decide +kernel
theorem dX12_lawClause_23 : decode cX12_lawClause 23 = .ok (.iadd, 1) := by decide +kernel
theorem dX12_lawClause_24 : decode cX12_lawClause 24 = .ok (.aload_n 0, 1) := by decide +kernel
theorem dX12_lawClause_25 : decode cX12_lawClause 25 = .ok (.getfield 175, 3) := by decide +kernel
theorem dX12_lawClause_28 : decode cX12_lawClause 28 = .ok (.iastore, 1) := by decide +kernel
theorem dX12_lawClause_29 : decode cX12_lawClause 29 = .ok (.iload_n 2, 1) := by decide +kernel
theorem dX12_lawClause_30 : decode cX12_lawClause 30 = .ok (.ireturn, 1) := by decide +kernel
def Md_lawClause (x1 : Int32) (ν : Nm) : Option (Int32 × Nm) :=
  if inb (x1 + (1 : Int32)) 2724 then
  (Md_summed (si ν 316 (x1 + (1 : Int32)).toNatClampNeg (gi ν 313 13))).bind fun v2 =>
  if inb (x1 + (2 : Int32)) 2724 then
  some (v2.1, (si v2.2 316 (x1 + (2 : Int32)).toNatClampNeg (gi v2.2 313 13)))
  else none
  else none
set_option maxRecDepth 100000 in
set_option maxHeartbeats 4000000 in
theorem t_Md_lawClause {g : GG} {d : Nat} (hd0 : 8 ≤ d) : ∀ (x1 : Int32) (ν : Nm) (r : (Int32 × Nm)), Md_lawClause x1 ν = some r → Z g d (0, 0) mX12_lawClause 333 0 0 0 [(0, .ref 313), (1, .int x1)] [] (zem ν) (zF g (some (.int r.1), zem r.2)) := by
  intro x1 ν r h
  unfold Md_lawClause at h
  refine z_aload_n dX12_lawClause_0 0 rfl ?_
  refine y_getR (M := mX12_lawClause) (r := 316) dX12_lawClause_1 zk_313 flRX12_16 fr_10_2.1 (fr_10_2.2 _) ?_
  refine z_iload_n dX12_lawClause_4 1 rfl ?_
  refine z_iconst (M := mX12_lawClause) (v := 1) dX12_lawClause_5 rfl ?_
  refine z_iadd dX12_lawClause_6 ?_
  refine z_aload_n dX12_lawClause_7 0 rfl ?_
  refine y_getI dX12_lawClause_8 zk_313 flRX12_175 ?_
  obtain ⟨hi1, h⟩ := oif h
  refine y_iast (M := mX12_lawClause) (jj := (x1 + (1 : Int32)).toNatClampNeg) dX12_lawClause_11 zk_316 hi1 rfl ?_
  refine z_aload_n dX12_lawClause_12 0 rfl ?_
  obtain ⟨v2, he2, h⟩ := obind h
  refine y_Vi (M := mX12_lawClause) (Y := mX12_summed) (d2 := d - 1) (As := []) (st := []) dX12_lawClause_13 mlRX12_242 cv_X12_summed zk_313 (ct_Md_summed (dle (Nat.le_of_ble_eq_true rfl) hd0) he2) (dps (Nat.le_of_ble_eq_true rfl) hd0) rfl rfl (Nat.le_of_ble_eq_true rfl) ?_
  refine z_istore_n (M := mX12_lawClause) (lv2 := [(2, .int v2.1), (0, .ref 313), (1, .int x1)]) dX12_lawClause_16 (Nat.le_of_ble_eq_true rfl) rfl ?_
  refine z_aload_n dX12_lawClause_17 1 rfl ?_
  refine y_getR (M := mX12_lawClause) (r := 316) dX12_lawClause_18 zk_313 flRX12_16 fr_10_2.1 (fr_10_2.2 _) ?_
  refine z_iload_n dX12_lawClause_21 2 rfl ?_
  refine z_iconst (M := mX12_lawClause) (v := 2) dX12_lawClause_22 rfl ?_
  refine z_iadd dX12_lawClause_23 ?_
  refine z_aload_n dX12_lawClause_24 1 rfl ?_
  refine y_getI dX12_lawClause_25 zk_313 flRX12_175 ?_
  obtain ⟨hi3, h⟩ := oif h
  refine y_iast (M := mX12_lawClause) (jj := (x1 + (2 : Int32)).toNatClampNeg) dX12_lawClause_28 zk_316 hi3 rfl ?_
  refine z_iload_n dX12_lawClause_29 0 rfl ?_
  cases h
  exact z_iret dX12_lawClause_30 rfl
theorem ct_Md_lawClause {g : GG} {d : Nat} {x1 : Int32} {ν : Nm} {r : (Int32 × Nm)} (hd0 : 8 ≤ d)  (h : Md_lawClause x1 ν = some r) : Ct g d mX12_lawClause [.ref 313, .int x1] (zem ν) (some (.int r.1), zem r.2) := y_entry in_X12_lawClause (Nat.le_of_ble_eq_true rfl) rfl (t_Md_lawClause hd0 x1 ν r h)
-- FuseMinutesModel.body(II)I
theorem dX12_body_0 : decode cX12_body 0 = .ok (.iload_n 1, 1) := by decide +kernel
theorem dX12_body_1 : decode cX12_body 1 = .ok (.tableswitch 117 2 9 #[47, 53, 64, 74, 84, 94, 104, 106], 47) := by decide +kernel
theorem dX12_body_48 : decode cX12_body 48 = .ok (.aload_n 0, 1) := by decide +kernel
theorem dX12_body_49 : decode cX12_body 49 = .ok (.iload_n 2, 1) := by decide +kernel
theorem dX12_body_50 : decode cX12_body 50 = .ok (.invokevirtual 249, 3) := by decide +kernel
theorem dX12_body_53 : decode cX12_body 53 = .ok (.ireturn, 1) := by decide +kernel
theorem dX12_body_54 : decode cX12_body 54 = .ok (.aload_n 0, 1) := by decide +kernel
theorem dX12_body_55 : decode cX12_body 55 = .ok (.iload_n 2, 1) := by decide +kernel
theorem dX12_body_56 : decode cX12_body 56 = .ok (.iconst 1, 1) := by decide +kernel
theorem dX12_body_57 : decode cX12_body 57 = .ok (.iadd, 1) := by decide +kernel
theorem dX12_body_58 : decode cX12_body 58 = .ok (.iconst 1, 1) := by decide +kernel
theorem dX12_body_59 : decode cX12_body 59 = .ok (.bipush 8, 2) := by decide +kernel
theorem dX12_body_61 : decode cX12_body 61 = .ok (.invokevirtual 245, 3) := by decide +kernel
theorem dX12_body_64 : decode cX12_body 64 = .ok (.ireturn, 1) := by decide +kernel
theorem dX12_body_65 : decode cX12_body 65 = .ok (.aload_n 0, 1) := by decide +kernel
theorem dX12_body_66 : decode cX12_body 66 = .ok (.iload_n 2, 1) := by decide +kernel
theorem dX12_body_67 : decode cX12_body 67 = .ok (.iconst 1, 1) := by decide +kernel
theorem dX12_body_68 : decode cX12_body 68 = .ok (.iadd, 1) := by decide +kernel
theorem dX12_body_69 : decode cX12_body 69 = .ok (.iconst 0, 1) := by decide +kernel
theorem dX12_body_70 : decode cX12_body 70 = .ok (.iconst 3, 1) := by decide +kernel
theorem dX12_body_71 : decode cX12_body 71 = .ok (.invokevirtual 245, 3) := by decide +kernel
theorem dX12_body_74 : decode cX12_body 74 = .ok (.ireturn, 1) := by decide +kernel
theorem dX12_body_75 : decode cX12_body 75 = .ok (.aload_n 0, 1) := by decide +kernel
theorem dX12_body_76 : decode cX12_body 76 = .ok (.iload_n 2, 1) := by decide +kernel
theorem dX12_body_77 : decode cX12_body 77 = .ok (.iconst 1, 1) := by decide +kernel
theorem dX12_body_78 : decode cX12_body 78 = .ok (.iadd, 1) := by decide +kernel
theorem dX12_body_79 : decode cX12_body 79 = .ok (.iconst 0, 1) := by decide +kernel
theorem dX12_body_80 : decode cX12_body 80 = .ok (.iconst 3, 1) := by decide +kernel
theorem dX12_body_81 : decode cX12_body 81 = .ok (.invokevirtual 245, 3) := by decide +kernel
theorem dX12_body_84 : decode cX12_body 84 = .ok (.ireturn, 1) := by decide +kernel
theorem dX12_body_85 : decode cX12_body 85 = .ok (.aload_n 0, 1) := by decide +kernel
theorem dX12_body_86 : decode cX12_body 86 = .ok (.iload_n 2, 1) := by decide +kernel
theorem dX12_body_87 : decode cX12_body 87 = .ok (.iconst 1, 1) := by decide +kernel
theorem dX12_body_88 : decode cX12_body 88 = .ok (.iadd, 1) := by decide +kernel
theorem dX12_body_89 : decode cX12_body 89 = .ok (.iconst 0, 1) := by decide +kernel
theorem dX12_body_90 : decode cX12_body 90 = .ok (.iconst 3, 1) := by decide +kernel
theorem dX12_body_91 : decode cX12_body 91 = .ok (.invokevirtual 245, 3) := by decide +kernel
theorem dX12_body_94 : decode cX12_body 94 = .ok (.ireturn, 1) := by decide +kernel
theorem dX12_body_95 : decode cX12_body 95 = .ok (.aload_n 0, 1) := by decide +kernel
theorem dX12_body_96 : decode cX12_body 96 = .ok (.iload_n 2, 1) := by decide +kernel
theorem dX12_body_97 : decode cX12_body 97 = .ok (.iconst 1, 1) := by decide +kernel
theorem dX12_body_98 : decode cX12_body 98 = .ok (.iadd, 1) := by decide +kernel
theorem dX12_body_99 : decode cX12_body 99 = .ok (.iconst 0, 1) := by decide +kernel
theorem dX12_body_100 : decode cX12_body 100 = .ok (.iconst 3, 1) := by decide +kernel
theorem dX12_body_101 : decode cX12_body 101 = .ok (.invokevirtual 245, 3) := by decide +kernel
theorem dX12_body_104 : decode cX12_body 104 = .ok (.ireturn, 1) := by decide +kernel
theorem dX12_body_105 : decode cX12_body 105 = .ok (.iconst 0, 1) := by decide +kernel
theorem dX12_body_106 : decode cX12_body 106 = .ok (.ireturn, 1) := by decide +kernel
theorem dX12_body_107 : decode cX12_body 107 = .ok (.aload_n 0, 1) := by decide +kernel
theorem dX12_body_108 : decode cX12_body 108 = .ok (.iload_n 2, 1) := by decide +kernel
theorem dX12_body_109 : decode cX12_body 109 = .ok (.iconst 1, 1) := by decide +kernel
theorem dX12_body_110 : decode cX12_body 110 = .ok (.iadd, 1) := by decide +kernel
theorem dX12_body_111 : decode cX12_body 111 = .ok (.iconst 1, 1) := by decide +kernel
theorem dX12_body_112 : decode cX12_body 112 = .ok (.bipush 60, 2) := by decide +kernel
theorem dX12_body_114 : decode cX12_body 114 = .ok (.invokevirtual 245, 3) := by decide +kernel
theorem dX12_body_117 : decode cX12_body 117 = .ok (.ireturn, 1) := by decide +kernel
theorem dX12_body_118 : decode cX12_body 118 = .ok (.aload_n 0, 1) := by decide +kernel
theorem dX12_body_119 : decode cX12_body 119 = .ok (.iload_n 2, 1) := by decide +kernel
theorem dX12_body_120 : decode cX12_body 120 = .ok (.invokevirtual 252, 3) := by decide +kernel
theorem dX12_body_123 : decode cX12_body 123 = .ok (.ireturn, 1) := by decide +kernel
def Md_body (x1 : Int32) (x2 : Int32) (ν : Nm) : Option (Int32 × Nm) :=
  (if x1 = (2 : Int32) then
    (Md_cordClause x2 ν).bind fun v1 =>
    some (v1.1, v1.2)
  else
  (if x1 = (3 : Int32) then
    (Md_figure (x2 + (1 : Int32)) (1 : Int32) (8 : Int32) ν).bind fun v3 =>
    some (v3.1, v3.2)
  else
  (if x1 = (4 : Int32) then
    (Md_figure (x2 + (1 : Int32)) (0 : Int32) (3 : Int32) ν).bind fun v5 =>
    some (v5.1, v5.2)
  else
  (if x1 = (5 : Int32) then
    (Md_figure (x2 + (1 : Int32)) (0 : Int32) (3 : Int32) ν).bind fun v7 =>
    some (v7.1, v7.2)
  else
  (if x1 = (6 : Int32) then
    (Md_figure (x2 + (1 : Int32)) (0 : Int32) (3 : Int32) ν).bind fun v9 =>
    some (v9.1, v9.2)
  else
  (if x1 = (7 : Int32) then
    (Md_figure (x2 + (1 : Int32)) (0 : Int32) (3 : Int32) ν).bind fun v11 =>
    some (v11.1, v11.2)
  else
  (if x1 = (8 : Int32) then
    some ((0 : Int32), ν)
  else
  (if x1 = (9 : Int32) then
    (Md_figure (x2 + (1 : Int32)) (1 : Int32) (60 : Int32) ν).bind fun v14 =>
    some (v14.1, v14.2)
  else
    (Md_lawClause x2 ν).bind fun v16 =>
    some (v16.1, v16.2)))))))))
set_option maxRecDepth 100000 in
set_option maxHeartbeats 4000000 in
theorem t_Md_body {g : GG} {d : Nat} (hd0 : 9 ≤ d) : ∀ (x1 : Int32) (x2 : Int32) (ν : Nm) (r : (Int32 × Nm)), Md_body x1 x2 ν = some r → Z g d (0, 0) mX12_body 333 0 0 0 [(0, .ref 313), (1, .int x1), (2, .int x2)] [] (zem ν) (zF g (some (.int r.1), zem r.2)) := by
  intro x1 x2 ν r h
  unfold Md_body at h
  refine z_iload_n dX12_body_0 1 rfl ?_
  by_cases hc2 : x1 = (2 : Int32)
  · replace h := oT hc2 h
    refine y_sw (2 : Int32) (2) 48 dX12_body_1 hc2 rfl (by decide) (by decide) rfl rfl ?_
    refine z_aload_n dX12_body_48 0 rfl ?_
    refine z_iload_n dX12_body_49 2 rfl ?_
    obtain ⟨v1, he1, h⟩ := obind h
    refine y_Vi (M := mX12_body) (Y := mX12_cordClause) (d2 := d - 1) (As := [.int x2]) (st := []) dX12_body_50 mlRX12_249 cv_X12_cordClause zk_313 (ct_Md_cordClause (dle (Nat.le_of_ble_eq_true rfl) hd0) he1) (dps (Nat.le_of_ble_eq_true rfl) hd0) rfl rfl (Nat.le_of_ble_eq_true rfl) ?_
    cases h
    exact z_iret dX12_body_53 rfl
  replace h := oF hc2 h
  by_cases hc4 : x1 = (3 : Int32)
  · replace h := oT hc4 h
    refine y_sw (3 : Int32) (3) 54 dX12_body_1 hc4 rfl (by decide) (by decide) rfl rfl ?_
    refine z_aload_n dX12_body_54 0 rfl ?_
    refine z_iload_n dX12_body_55 2 rfl ?_
    refine z_iconst (M := mX12_body) (v := 1) dX12_body_56 rfl ?_
    refine z_iadd dX12_body_57 ?_
    refine z_iconst (M := mX12_body) (v := 1) dX12_body_58 rfl ?_
    refine z_bipush (M := mX12_body) (v := 8) dX12_body_59 rfl ?_
    obtain ⟨v3, he3, h⟩ := obind h
    refine y_Vi (M := mX12_body) (Y := mX12_figure) (d2 := d - 1) (As := [.int (x2 + (1 : Int32)), .int (1 : Int32), .int (8 : Int32)]) (st := []) dX12_body_61 mlRX12_245 cv_X12_figure zk_313 (ct_Md_figure (dle (Nat.le_of_ble_eq_true rfl) hd0) he3) (dps (Nat.le_of_ble_eq_true rfl) hd0) rfl rfl (Nat.le_of_ble_eq_true rfl) ?_
    cases h
    exact z_iret dX12_body_64 rfl
  replace h := oF hc4 h
  by_cases hc6 : x1 = (4 : Int32)
  · replace h := oT hc6 h
    refine y_sw (4 : Int32) (4) 65 dX12_body_1 hc6 rfl (by decide) (by decide) rfl rfl ?_
    refine z_aload_n dX12_body_65 0 rfl ?_
    refine z_iload_n dX12_body_66 2 rfl ?_
    refine z_iconst (M := mX12_body) (v := 1) dX12_body_67 rfl ?_
    refine z_iadd dX12_body_68 ?_
    refine z_iconst (M := mX12_body) (v := 0) dX12_body_69 rfl ?_
    refine z_iconst (M := mX12_body) (v := 3) dX12_body_70 rfl ?_
    obtain ⟨v5, he5, h⟩ := obind h
    refine y_Vi (M := mX12_body) (Y := mX12_figure) (d2 := d - 1) (As := [.int (x2 + (1 : Int32)), .int (0 : Int32), .int (3 : Int32)]) (st := []) dX12_body_71 mlRX12_245 cv_X12_figure zk_313 (ct_Md_figure (dle (Nat.le_of_ble_eq_true rfl) hd0) he5) (dps (Nat.le_of_ble_eq_true rfl) hd0) rfl rfl (Nat.le_of_ble_eq_true rfl) ?_
    cases h
    exact z_iret dX12_body_74 rfl
  replace h := oF hc6 h
  by_cases hc8 : x1 = (5 : Int32)
  · replace h := oT hc8 h
    refine y_sw (5 : Int32) (5) 75 dX12_body_1 hc8 rfl (by decide) (by decide) rfl rfl ?_
    refine z_aload_n dX12_body_75 0 rfl ?_
    refine z_iload_n dX12_body_76 2 rfl ?_
    refine z_iconst (M := mX12_body) (v := 1) dX12_body_77 rfl ?_
    refine z_iadd dX12_body_78 ?_
    refine z_iconst (M := mX12_body) (v := 0) dX12_body_79 rfl ?_
    refine z_iconst (M := mX12_body) (v := 3) dX12_body_80 rfl ?_
    obtain ⟨v7, he7, h⟩ := obind h
    refine y_Vi (M := mX12_body) (Y := mX12_figure) (d2 := d - 1) (As := [.int (x2 + (1 : Int32)), .int (0 : Int32), .int (3 : Int32)]) (st := []) dX12_body_81 mlRX12_245 cv_X12_figure zk_313 (ct_Md_figure (dle (Nat.le_of_ble_eq_true rfl) hd0) he7) (dps (Nat.le_of_ble_eq_true rfl) hd0) rfl rfl (Nat.le_of_ble_eq_true rfl) ?_
    cases h
    exact z_iret dX12_body_84 rfl
  replace h := oF hc8 h
  by_cases hc10 : x1 = (6 : Int32)
  · replace h := oT hc10 h
    refine y_sw (6 : Int32) (6) 85 dX12_body_1 hc10 rfl (by decide) (by decide) rfl rfl ?_
    refine z_aload_n dX12_body_85 0 rfl ?_
    refine z_iload_n dX12_body_86 2 rfl ?_
    refine z_iconst (M := mX12_body) (v := 1) dX12_body_87 rfl ?_
    refine z_iadd dX12_body_88 ?_
    refine z_iconst (M := mX12_body) (v := 0) dX12_body_89 rfl ?_
    refine z_iconst (M := mX12_body) (v := 3) dX12_body_90 rfl ?_
    obtain ⟨v9, he9, h⟩ := obind h
    refine y_Vi (M := mX12_body) (Y := mX12_figure) (d2 := d - 1) (As := [.int (x2 + (1 : Int32)), .int (0 : Int32), .int (3 : Int32)]) (st := []) dX12_body_91 mlRX12_245 cv_X12_figure zk_313 (ct_Md_figure (dle (Nat.le_of_ble_eq_true rfl) hd0) he9) (dps (Nat.le_of_ble_eq_true rfl) hd0) rfl rfl (Nat.le_of_ble_eq_true rfl) ?_
    cases h
    exact z_iret dX12_body_94 rfl
  replace h := oF hc10 h
  by_cases hc12 : x1 = (7 : Int32)
  · replace h := oT hc12 h
    refine y_sw (7 : Int32) (7) 95 dX12_body_1 hc12 rfl (by decide) (by decide) rfl rfl ?_
    refine z_aload_n dX12_body_95 0 rfl ?_
    refine z_iload_n dX12_body_96 2 rfl ?_
    refine z_iconst (M := mX12_body) (v := 1) dX12_body_97 rfl ?_
    refine z_iadd dX12_body_98 ?_
    refine z_iconst (M := mX12_body) (v := 0) dX12_body_99 rfl ?_
    refine z_iconst (M := mX12_body) (v := 3) dX12_body_100 rfl ?_
    obtain ⟨v11, he11, h⟩ := obind h
    refine y_Vi (M := mX12_body) (Y := mX12_figure) (d2 := d - 1) (As := [.int (x2 + (1 : Int32)), .int (0 : Int32), .int (3 : Int32)]) (st := []) dX12_body_101 mlRX12_245 cv_X12_figure zk_313 (ct_Md_figure (dle (Nat.le_of_ble_eq_true rfl) hd0) he11) (dps (Nat.le_of_ble_eq_true rfl) hd0) rfl rfl (Nat.le_of_ble_eq_true rfl) ?_
    cases h
    exact z_iret dX12_body_104 rfl
  replace h := oF hc12 h
  by_cases hc13 : x1 = (8 : Int32)
  · replace h := oT hc13 h
    refine y_sw (8 : Int32) (8) 105 dX12_body_1 hc13 rfl (by decide) (by decide) rfl rfl ?_
    refine z_iconst (M := mX12_body) (v := 0) dX12_body_105 rfl ?_
    cases h
    exact z_iret dX12_body_106 rfl
  replace h := oF hc13 h
  by_cases hc15 : x1 = (9 : Int32)
  · replace h := oT hc15 h
    refine y_sw (9 : Int32) (9) 107 dX12_body_1 hc15 rfl (by decide) (by decide) rfl rfl ?_
    refine z_aload_n dX12_body_107 0 rfl ?_
    refine z_iload_n dX12_body_108 2 rfl ?_
    refine z_iconst (M := mX12_body) (v := 1) dX12_body_109 rfl ?_
    refine z_iadd dX12_body_110 ?_
    refine z_iconst (M := mX12_body) (v := 1) dX12_body_111 rfl ?_
    refine z_bipush (M := mX12_body) (v := 60) dX12_body_112 rfl ?_
    obtain ⟨v14, he14, h⟩ := obind h
    refine y_Vi (M := mX12_body) (Y := mX12_figure) (d2 := d - 1) (As := [.int (x2 + (1 : Int32)), .int (1 : Int32), .int (60 : Int32)]) (st := []) dX12_body_114 mlRX12_245 cv_X12_figure zk_313 (ct_Md_figure (dle (Nat.le_of_ble_eq_true rfl) hd0) he14) (dps (Nat.le_of_ble_eq_true rfl) hd0) rfl rfl (Nat.le_of_ble_eq_true rfl) ?_
    cases h
    exact z_iret dX12_body_117 rfl
  replace h := oF hc15 h
  have zhc2 := i32ne hc2 (z := 2) rfl
  have zhc4 := i32ne hc4 (z := 3) rfl
  have zhc6 := i32ne hc6 (z := 4) rfl
  have zhc8 := i32ne hc8 (z := 5) rfl
  have zhc10 := i32ne hc10 (z := 6) rfl
  have zhc12 := i32ne hc12 (z := 7) rfl
  have zhc13 := i32ne hc13 (z := 8) rfl
  have zhc15 := i32ne hc15 (z := 9) rfl
  refine z_tableOut 118 dX12_body_1 (by omega) rfl ?_
  refine z_aload_n dX12_body_118 0 rfl ?_
  refine z_iload_n dX12_body_119 2 rfl ?_
  obtain ⟨v16, he16, h⟩ := obind h
  refine y_Vi (M := mX12_body) (Y := mX12_lawClause) (d2 := d - 1) (As := [.int x2]) (st := []) dX12_body_120 mlRX12_252 cv_X12_lawClause zk_313 (ct_Md_lawClause (dle (Nat.le_of_ble_eq_true rfl) hd0) he16) (dps (Nat.le_of_ble_eq_true rfl) hd0) rfl rfl (Nat.le_of_ble_eq_true rfl) ?_
  cases h
  exact z_iret dX12_body_123 rfl
theorem ct_Md_body {g : GG} {d : Nat} {x1 : Int32} {x2 : Int32} {ν : Nm} {r : (Int32 × Nm)} (hd0 : 9 ≤ d)  (h : Md_body x1 x2 ν = some r) : Ct g d mX12_body [.ref 313, .int x1, .int x2] (zem ν) (some (.int r.1), zem r.2) := y_entry in_X12_body (Nat.le_of_ble_eq_true rfl) rfl (t_Md_body hd0 x1 x2 ν r h)
-- FuseMinutesModel.has(II)Z
theorem dX12_has_0 : decode cX12_has 0 = .ok (.iload_n 0, 1) := by decide +kernel
theorem dX12_has_1 : decode cX12_has 1 = .ok (.iload_n 1, 1) := by decide +kernel
theorem dX12_has_2 : decode cX12_has 2 = .ok (.ishr, 1) := by decide +kernel
theorem dX12_has_3 : decode cX12_has 3 = .ok (.iconst 1, 1) := by decide +kernel
theorem dX12_has_4 : decode cX12_has 4 = .ok (.iand, 1) := by decide +kernel
theorem dX12_has_5 : decode cX12_has 5 = .ok (.iconst 1, 1) := by decide +kernel
theorem dX12_has_6 : decode cX12_has 6 = .ok (.if_icmp .ne 7, 3) := by decide +kernel
theorem dX12_has_9 : decode cX12_has 9 = .ok (.iconst 1, 1) := by decide +kernel
theorem dX12_has_10 : decode cX12_has 10 = .ok (.goto 4, 3) := by decide +kernel
theorem dX12_has_13 : decode cX12_has 13 = .ok (.iconst 0, 1) := by decide +kernel
theorem dX12_has_14 : decode cX12_has 14 = .ok (.ireturn, 1) := by decide +kernel
def Md_has (x0 : Int32) (x1 : Int32) : Option Bool :=
  (if ¬ ((x0 >>> (x1 &&& 31)) &&& (1 : Int32)) = (1 : Int32) then
    some false
  else
    some true)
set_option maxRecDepth 100000 in
set_option maxHeartbeats 4000000 in
theorem t_Md_has {g : GG} {d : Nat} {μ : Mm} (hd0 : 1 ≤ d) : ∀ (x0 : Int32) (x1 : Int32) (r : Bool), Md_has x0 x1 = some r → Z g d (0, 0) mX12_has 333 0 0 0 [(0, .int x0), (1, .int x1)] [] μ (zF g (some (.int (b2i r)), μ)) := by
  intro x0 x1 r h
  unfold Md_has at h
  refine z_iload_n dX12_has_0 0 rfl ?_
  refine z_iload_n dX12_has_1 1 rfl ?_
  refine z_ishr dX12_has_2 ?_
  refine z_iconst (M := mX12_has) (v := 1) dX12_has_3 rfl ?_
  refine z_iand dX12_has_4 ?_
  refine z_iconst (M := mX12_has) (v := 1) dX12_has_5 rfl ?_
  refine z_icmp_ne 13 dX12_has_6 rfl (fun hc1 => ?_) (fun hc1 => ?_)
  · replace h := oT hc1 h
    refine z_iconst (M := mX12_has) (v := 0) dX12_has_13 rfl ?_
    cases h
    exact z_zret dX12_has_14 rfl rfl
  · replace h := oFn hc1 h
    refine z_iconst (M := mX12_has) (v := 1) dX12_has_9 rfl ?_
    refine z_goto 14 dX12_has_10 rfl ?_
    cases h
    exact z_zret dX12_has_14 rfl rfl
theorem ct_Md_has {g : GG} {d : Nat} {x0 : Int32} {x1 : Int32} {μ : Mm} {r : Bool} (hd0 : 1 ≤ d)  (h : Md_has x0 x1 = some r) : Ct g d mX12_has [.int x0, .int x1] μ (some (.int (b2i r)), μ) := y_entry in_X12_has (Nat.le_of_ble_eq_true rfl) rfl (t_Md_has hd0 x0 x1 r h)
-- FuseMinutesModel.w6(IIIIII)J
theorem dX12_w6_0 : decode cX12_w6 0 = .ok (.iload_n 0, 1) := by decide +kernel
theorem dX12_w6_1 : decode cX12_w6 1 = .ok (.iload_n 1, 1) := by decide +kernel
theorem dX12_w6_2 : decode cX12_w6 2 = .ok (.iload_n 2, 1) := by decide +kernel
theorem dX12_w6_3 : decode cX12_w6 3 = .ok (.iload_n 3, 1) := by decide +kernel
theorem dX12_w6_4 : decode cX12_w6 4 = .ok (.iload 4, 2) := by decide +kernel
theorem dX12_w6_6 : decode cX12_w6 6 = .ok (.invokestatic 168, 3) := by decide +kernel
theorem dX12_w6_9 : decode cX12_w6 9 = .ok (.bipush 8, 2) := by decide +kernel
theorem dX12_w6_11 : decode cX12_w6 11 = .ok (.lshl, 1) := by decide +kernel
theorem dX12_w6_12 : decode cX12_w6 12 = .ok (.iload 5, 2) := by decide +kernel
theorem dX12_w6_14 : decode cX12_w6 14 = .ok (.i2l, 1) := by decide +kernel
theorem dX12_w6_15 : decode cX12_w6 15 = .ok (.lor, 1) := by decide +kernel
theorem dX12_w6_16 : decode cX12_w6 16 = .ok (.lreturn, 1) := by decide +kernel
def Md_w6 (x0 : Int32) (x1 : Int32) (x2 : Int32) (x3 : Int32) (x4 : Int32) (x5 : Int32) : Option Int64 :=
  (Md_w5 x0 x1 x2 x3 x4).bind fun v1 =>
  some ((v1 <<< ((8 : Int32).toInt64 &&& 63)) ||| x5.toInt64)
set_option maxRecDepth 100000 in
set_option maxHeartbeats 4000000 in
theorem t_Md_w6 {g : GG} {d : Nat} {μ : Mm} (hd0 : 5 ≤ d) : ∀ (x0 : Int32) (x1 : Int32) (x2 : Int32) (x3 : Int32) (x4 : Int32) (x5 : Int32) (r : Int64), Md_w6 x0 x1 x2 x3 x4 x5 = some r → Z g d (0, 0) mX12_w6 333 0 0 0 [(0, .int x0), (1, .int x1), (2, .int x2), (3, .int x3), (4, .int x4), (5, .int x5)] [] μ (zF g (some (.long r), μ)) := by
  intro x0 x1 x2 x3 x4 x5 r h
  unfold Md_w6 at h
  refine z_iload_n dX12_w6_0 0 rfl ?_
  refine z_iload_n dX12_w6_1 1 rfl ?_
  refine z_iload_n dX12_w6_2 2 rfl ?_
  refine z_iload_n dX12_w6_3 3 rfl ?_
  refine z_iload dX12_w6_4 4 rfl ?_
  obtain ⟨v1, he1, h⟩ := obind h
  refine y_Sl (M := mX12_w6) (Y := mX12_w5) (d2 := d - 1) (As := [.int x0, .int x1, .int x2, .int x3, .int x4]) (st := []) dX12_w6_6 mlRX12_168 cv_X12_w5 (ct_Md_w5 (dle (Nat.le_of_ble_eq_true rfl) hd0) he1) (dps (Nat.le_of_ble_eq_true rfl) hd0) rfl rfl (Nat.le_of_ble_eq_true rfl) ?_
  refine z_bipush (M := mX12_w6) (v := 8) dX12_w6_9 rfl ?_
  refine z_lshl dX12_w6_11 ?_
  refine z_iload dX12_w6_12 5 rfl ?_
  refine z_i2l dX12_w6_14 ?_
  refine z_lor dX12_w6_15 ?_
  cases h
  exact z_lret dX12_w6_16 rfl
theorem ct_Md_w6 {g : GG} {d : Nat} {x0 : Int32} {x1 : Int32} {x2 : Int32} {x3 : Int32} {x4 : Int32} {x5 : Int32} {μ : Mm} {r : Int64} (hd0 : 5 ≤ d)  (h : Md_w6 x0 x1 x2 x3 x4 x5 = some r) : Ct g d mX12_w6 [.int x0, .int x1, .int x2, .int x3, .int x4, .int x5] μ (some (.long r), μ) := y_entry in_X12_w6 (Nat.le_of_ble_eq_true rfl) rfl (t_Md_w6 hd0 x0 x1 x2 x3 x4 x5 r h)
-- FuseMinutesModel.sortOf()I
theorem dX12_sortOf_0 : decode cX12_sortOf 0 = .ok (.aload_n 0, 1) := by decide +kernel
theorem dX12_sortOf_1 : decode cX12_sortOf 1 = .ok (.bipush 108, 2) := by decide +kernel
theorem dX12_sortOf_3 : decode cX12_sortOf 3 = .ok (.bipush 105, 2) := by decide +kernel
theorem dX12_sortOf_5 : decode cX12_sortOf 5 = .ok (.bipush 103, 2) := by decide +kernel
theorem dX12_sortOf_7 : decode cX12_sortOf 7 = .ok (.bipush 104, 2) := by decide +kernel
theorem dX12_sortOf_9 : decode cX12_sortOf 9 = .ok (.bipush 116, 2) := by decide +kernel
theorem dX12_sortOf_11 : decode cX12_sortOf 11 = .ok (.bipush 115, 2) := by decide +kernel
theorem dX12_sortOf_13 : decode cX12_sortOf 13 = .ok (.invokestatic 255, 3) := by decide +kernel
theorem dX12_sortOf_16 : decode cX12_sortOf 16 = .ok (.invokevirtual 216, 3) := by decide +kernel
theorem dX12_sortOf_19 : decode cX12_sortOf 19 = .ok (.ifCond .eq 5, 3) := by decide +kernel
theorem dX12_sortOf_22 : decode cX12_sortOf 22 = .ok (.iconst 0, 1) := by decide +kernel
theorem dX12_sortOf_23 : decode cX12_sortOf 23 = .ok (.ireturn, 1) := by decide +kernel
theorem dX12_sortOf_24 : decode cX12_sortOf 24 = .ok (.aload_n 0, 1) := by decide +kernel
theorem dX12_sortOf_25 : decode cX12_sortOf 25 = .ok (.bipush 102, 2) := by decide +kernel
theorem dX12_sortOf_27 : decode cX12_sortOf 27 = .ok (.bipush 97, 2) := by decide +kernel
theorem dX12_sortOf_29 : decode cX12_sortOf 29 = .ok (.bipush 105, 2) := by decide +kernel
theorem dX12_sortOf_31 : decode cX12_sortOf 31 = .ok (.bipush 108, 2) := by decide +kernel
theorem dX12_sortOf_33 : decode cX12_sortOf 33 = .ok (.bipush 115, 2) := by decide +kernel
theorem dX12_sortOf_35 : decode cX12_sortOf 35 = .ok (.invokestatic 168, 3) := by decide +kernel
theorem dX12_sortOf_38 : decode cX12_sortOf 38 = .ok (.invokevirtual 216, 3) := by decide +kernel
theorem dX12_sortOf_41 : decode cX12_sortOf 41 = .ok (.ifCond .eq 5, 3) := by decide +kernel
theorem dX12_sortOf_44 : decode cX12_sortOf 44 = .ok (.iconst 1, 1) := by decide +kernel
theorem dX12_sortOf_45 : decode cX12_sortOf 45 = .ok (.ireturn, 1) := by decide +kernel
theorem dX12_sortOf_46 : decode cX12_sortOf 46 = .ok (.aload_n 0, 1) := by decide +kernel
theorem dX12_sortOf_47 : decode cX12_sortOf 47 = .ok (.bipush 99, 2) := by decide +kernel
theorem dX12_sortOf_49 : decode cX12_sortOf 49 = .ok (.bipush 111, 2) := by decide +kernel
theorem dX12_sortOf_51 : decode cX12_sortOf 51 = .ok (.bipush 114, 2) := by decide +kernel
theorem dX12_sortOf_53 : decode cX12_sortOf 53 = .ok (.bipush 100, 2) := by decide +kernel
theorem dX12_sortOf_55 : decode cX12_sortOf 55 = .ok (.invokestatic 164, 3) := by decide +kernel
theorem dX12_sortOf_58 : decode cX12_sortOf 58 = .ok (.invokevirtual 216, 3) := by decide +kernel
theorem dX12_sortOf_61 : decode cX12_sortOf 61 = .ok (.ifCond .eq 5, 3) := by decide +kernel
theorem dX12_sortOf_64 : decode cX12_sortOf 64 = .ok (.iconst 2, 1) := by decide +kernel
theorem dX12_sortOf_65 : decode cX12_sortOf 65 = .ok (.ireturn, 1) := by decide +kernel
theorem dX12_sortOf_66 : decode cX12_sortOf 66 = .ok (.aload_n 0, 1) := by decide +kernel
theorem dX12_sortOf_67 : decode cX12_sortOf 67 = .ok (.bipush 104, 2) := by decide +kernel
theorem dX12_sortOf_69 : decode cX12_sortOf 69 = .ok (.bipush 97, 2) := by decide +kernel
theorem dX12_sortOf_71 : decode cX12_sortOf 71 = .ok (.bipush 110, 2) := by decide +kernel
theorem dX12_sortOf_73 : decode cX12_sortOf 73 = .ok (.bipush 100, 2) := by decide +kernel
theorem dX12_sortOf_75 : decode cX12_sortOf 75 = .ok (.bipush 115, 2) := by decide +kernel
theorem dX12_sortOf_77 : decode cX12_sortOf 77 = .ok (.invokestatic 168, 3) := by decide +kernel
theorem dX12_sortOf_80 : decode cX12_sortOf 80 = .ok (.invokevirtual 216, 3) := by decide +kernel
theorem dX12_sortOf_83 : decode cX12_sortOf 83 = .ok (.ifCond .eq 5, 3) := by decide +kernel
theorem dX12_sortOf_86 : decode cX12_sortOf 86 = .ok (.iconst 3, 1) := by decide +kernel
theorem dX12_sortOf_87 : decode cX12_sortOf 87 = .ok (.ireturn, 1) := by decide +kernel
theorem dX12_sortOf_88 : decode cX12_sortOf 88 = .ok (.aload_n 0, 1) := by decide +kernel
theorem dX12_sortOf_89 : decode cX12_sortOf 89 = .ok (.bipush 108, 2) := by decide +kernel
theorem dX12_sortOf_91 : decode cX12_sortOf 91 = .ok (.bipush 101, 2) := by decide +kernel
theorem dX12_sortOf_93 : decode cX12_sortOf 93 = .ok (.bipush 102, 2) := by decide +kernel
theorem dX12_sortOf_95 : decode cX12_sortOf 95 = .ok (.bipush 116, 2) := by decide +kernel
theorem dX12_sortOf_97 : decode cX12_sortOf 97 = .ok (.invokestatic 164, 3) := by decide +kernel
theorem dX12_sortOf_100 : decode cX12_sortOf 100 = .ok (.invokevirtual 216, 3) := by decide +kernel
theorem dX12_sortOf_103 : decode cX12_sortOf 103 = .ok (.ifCond .eq 5, 3) := by decide +kernel
theorem dX12_sortOf_106 : decode cX12_sortOf 106 = .ok (.iconst 4, 1) := by decide +kernel
theorem dX12_sortOf_107 : decode cX12_sortOf 107 = .ok (.ireturn, 1) := by decide +kernel
theorem dX12_sortOf_108 : decode cX12_sortOf 108 = .ok (.aload_n 0, 1) := by decide +kernel
theorem dX12_sortOf_109 : decode cX12_sortOf 109 = .ok (.bipush 114, 2) := by decide +kernel
theorem dX12_sortOf_111 : decode cX12_sortOf 111 = .ok (.bipush 105, 2) := by decide +kernel
theorem dX12_sortOf_113 : decode cX12_sortOf 113 = .ok (.bipush 103, 2) := by decide +kernel
theorem dX12_sortOf_115 : decode cX12_sortOf 115 = .ok (.bipush 104, 2) := by decide +kernel
theorem dX12_sortOf_117 : decode cX12_sortOf 117 = .ok (.bipush 116, 2) := by decide +kernel
theorem dX12_sortOf_119 : decode cX12_sortOf 119 = .ok (.invokestatic 168, 3) := by decide +kernel
theorem dX12_sortOf_122 : decode cX12_sortOf 122 = .ok (.invokevirtual 216, 3) := by decide +kernel
theorem dX12_sortOf_125 : decode cX12_sortOf 125 = .ok (.ifCond .eq 5, 3) := by decide +kernel
theorem dX12_sortOf_128 : decode cX12_sortOf 128 = .ok (.iconst 5, 1) := by decide +kernel
theorem dX12_sortOf_129 : decode cX12_sortOf 129 = .ok (.ireturn, 1) := by decide +kernel
theorem dX12_sortOf_130 : decode cX12_sortOf 130 = .ok (.aload_n 0, 1) := by decide +kernel
theorem dX12_sortOf_131 : decode cX12_sortOf 131 = .ok (.bipush 115, 2) := by decide +kernel
theorem dX12_sortOf_133 : decode cX12_sortOf 133 = .ok (.bipush 110, 2) := by decide +kernel
theorem dX12_sortOf_135 : decode cX12_sortOf 135 = .ok (.bipush 117, 2) := by decide +kernel
theorem dX12_sortOf_137 : decode cX12_sortOf 137 = .ok (.bipush 102, 2) := by decide +kernel
theorem dX12_sortOf_139 : decode cX12_sortOf 139 = .ok (.bipush 102, 2) := by decide +kernel
theorem dX12_sortOf_141 : decode cX12_sortOf 141 = .ok (.invokestatic 168, 3) := by decide +kernel
theorem dX12_sortOf_144 : decode cX12_sortOf 144 = .ok (.invokevirtual 216, 3) := by decide +kernel
theorem dX12_sortOf_147 : decode cX12_sortOf 147 = .ok (.ifCond .eq 6, 3) := by decide +kernel
theorem dX12_sortOf_150 : decode cX12_sortOf 150 = .ok (.bipush 6, 2) := by decide +kernel
theorem dX12_sortOf_152 : decode cX12_sortOf 152 = .ok (.ireturn, 1) := by decide +kernel
theorem dX12_sortOf_153 : decode cX12_sortOf 153 = .ok (.aload_n 0, 1) := by decide +kernel
theorem dX12_sortOf_154 : decode cX12_sortOf 154 = .ok (.bipush 114, 2) := by decide +kernel
theorem dX12_sortOf_156 : decode cX12_sortOf 156 = .ok (.bipush 101, 2) := by decide +kernel
theorem dX12_sortOf_158 : decode cX12_sortOf 158 = .ok (.bipush 110, 2) := by decide +kernel
theorem dX12_sortOf_160 : decode cX12_sortOf 160 = .ok (.bipush 101, 2) := by decide +kernel
theorem dX12_sortOf_162 : decode cX12_sortOf 162 = .ok (.bipush 119, 2) := by decide +kernel
theorem dX12_sortOf_164 : decode cX12_sortOf 164 = .ok (.invokestatic 168, 3) := by decide +kernel
theorem dX12_sortOf_167 : decode cX12_sortOf 167 = .ok (.invokevirtual 216, 3) := by decide +kernel
theorem dX12_sortOf_170 : decode cX12_sortOf 170 = .ok (.ifCond .eq 6, 3) := by decide +kernel
theorem dX12_sortOf_173 : decode cX12_sortOf 173 = .ok (.bipush 7, 2) := by decide +kernel
theorem dX12_sortOf_175 : decode cX12_sortOf 175 = .ok (.ireturn, 1) := by decide +kernel
theorem dX12_sortOf_176 : decode cX12_sortOf 176 = .ok (.aload_n 0, 1) := by decide +kernel
theorem dX12_sortOf_177 : decode cX12_sortOf 177 = .ok (.bipush 98, 2) := by decide +kernel
theorem dX12_sortOf_179 : decode cX12_sortOf 179 = .ok (.bipush 117, 2) := by decide +kernel
theorem dX12_sortOf_181 : decode cX12_sortOf 181 = .ok (.bipush 114, 2) := by decide +kernel
theorem dX12_sortOf_183 : decode cX12_sortOf 183 = .ok (.bipush 110, 2) := by decide +kernel
theorem dX12_sortOf_185 : decode cX12_sortOf 185 = .ok (.invokestatic 164, 3) := by decide +kernel
theorem dX12_sortOf_188 : decode cX12_sortOf 188 = .ok (.invokevirtual 216, 3) := by decide +kernel
theorem dX12_sortOf_191 : decode cX12_sortOf 191 = .ok (.ifCond .eq 8, 3) := by decide +kernel
theorem dX12_sortOf_194 : decode cX12_sortOf 194 = .ok (.bipush 8, 2) := by decide +kernel
theorem dX12_sortOf_196 : decode cX12_sortOf 196 = .ok (.goto 31, 3) := by decide +kernel
theorem dX12_sortOf_199 : decode cX12_sortOf 199 = .ok (.aload_n 0, 1) := by decide +kernel
theorem dX12_sortOf_200 : decode cX12_sortOf 200 = .ok (.bipush 109, 2) := by decide +kernel
theorem dX12_sortOf_202 : decode cX12_sortOf 202 = .ok (.bipush 105, 2) := by decide +kernel
theorem dX12_sortOf_204 : decode cX12_sortOf 204 = .ok (.bipush 110, 2) := by decide +kernel
theorem dX12_sortOf_206 : decode cX12_sortOf 206 = .ok (.bipush 117, 2) := by decide +kernel
theorem dX12_sortOf_208 : decode cX12_sortOf 208 = .ok (.bipush 116, 2) := by decide +kernel
theorem dX12_sortOf_210 : decode cX12_sortOf 210 = .ok (.bipush 101, 2) := by decide +kernel
theorem dX12_sortOf_212 : decode cX12_sortOf 212 = .ok (.invokestatic 255, 3) := by decide +kernel
theorem dX12_sortOf_215 : decode cX12_sortOf 215 = .ok (.invokevirtual 216, 3) := by decide +kernel
theorem dX12_sortOf_218 : decode cX12_sortOf 218 = .ok (.ifCond .eq 8, 3) := by decide +kernel
theorem dX12_sortOf_221 : decode cX12_sortOf 221 = .ok (.bipush 9, 2) := by decide +kernel
theorem dX12_sortOf_223 : decode cX12_sortOf 223 = .ok (.goto 4, 3) := by decide +kernel
theorem dX12_sortOf_226 : decode cX12_sortOf 226 = .ok (.iconst (-1), 1) := by decide +kernel
theorem dX12_sortOf_227 : decode cX12_sortOf 227 = .ok (.ireturn, 1) := by decide +kernel
def Md_sortOf (ν : Nm) : Option Int32 :=
  (Md_w6 (108 : Int32) (105 : Int32) (103 : Int32) (104 : Int32) (116 : Int32) (115 : Int32)).bind fun v1 =>
  (Md_isWord ν v1).bind fun v2 =>
  (if (b2i v2) = 0 then
    (Md_w5 (102 : Int32) (97 : Int32) (105 : Int32) (108 : Int32) (115 : Int32)).bind fun v4 =>
    (Md_isWord ν v4).bind fun v5 =>
    (if (b2i v5) = 0 then
      (Md_w4 (99 : Int32) (111 : Int32) (114 : Int32) (100 : Int32)).bind fun v7 =>
      (Md_isWord ν v7).bind fun v8 =>
      (if (b2i v8) = 0 then
        (Md_w5 (104 : Int32) (97 : Int32) (110 : Int32) (100 : Int32) (115 : Int32)).bind fun v10 =>
        (Md_isWord ν v10).bind fun v11 =>
        (if (b2i v11) = 0 then
          (Md_w4 (108 : Int32) (101 : Int32) (102 : Int32) (116 : Int32)).bind fun v13 =>
          (Md_isWord ν v13).bind fun v14 =>
          (if (b2i v14) = 0 then
            (Md_w5 (114 : Int32) (105 : Int32) (103 : Int32) (104 : Int32) (116 : Int32)).bind fun v16 =>
            (Md_isWord ν v16).bind fun v17 =>
            (if (b2i v17) = 0 then
              (Md_w5 (115 : Int32) (110 : Int32) (117 : Int32) (102 : Int32) (102 : Int32)).bind fun v19 =>
              (Md_isWord ν v19).bind fun v20 =>
              (if (b2i v20) = 0 then
                (Md_w5 (114 : Int32) (101 : Int32) (110 : Int32) (101 : Int32) (119 : Int32)).bind fun v22 =>
                (Md_isWord ν v22).bind fun v23 =>
                (if (b2i v23) = 0 then
                  (Md_w4 (98 : Int32) (117 : Int32) (114 : Int32) (110 : Int32)).bind fun v25 =>
                  (Md_isWord ν v25).bind fun v26 =>
                  (if (b2i v26) = 0 then
                    (Md_w6 (109 : Int32) (105 : Int32) (110 : Int32) (117 : Int32) (116 : Int32) (101 : Int32)).bind fun v28 =>
                    (Md_isWord ν v28).bind fun v29 =>
                    (if (b2i v29) = 0 then
                      some (-1 : Int32)
                    else
                      some (9 : Int32))
                  else
                    some (8 : Int32))
                else
                  some (7 : Int32))
              else
                some (6 : Int32))
            else
              some (5 : Int32))
          else
            some (4 : Int32))
        else
          some (3 : Int32))
      else
        some (2 : Int32))
    else
      some (1 : Int32))
  else
    some (0 : Int32))
set_option maxRecDepth 100000 in
set_option maxHeartbeats 4000000 in
theorem t_Md_sortOf {g : GG} {d : Nat} {ν : Nm} (hd0 : 6 ≤ d) : ∀ (r : Int32), Md_sortOf ν = some r → Z g d (0, 0) mX12_sortOf 333 0 0 0 [(0, .ref 313)] [] (zem ν) (zF g (some (.int r), zem ν)) := by
  intro r h
  unfold Md_sortOf at h
  refine z_aload_n dX12_sortOf_0 0 rfl ?_
  refine z_bipush (M := mX12_sortOf) (v := 108) dX12_sortOf_1 rfl ?_
  refine z_bipush (M := mX12_sortOf) (v := 105) dX12_sortOf_3 rfl ?_
  refine z_bipush (M := mX12_sortOf) (v := 103) dX12_sortOf_5 rfl ?_
  refine z_bipush (M := mX12_sortOf) (v := 104) dX12_sortOf_7 rfl ?_
  refine z_bipush (M := mX12_sortOf) (v := 116) dX12_sortOf_9 rfl ?_
  refine z_bipush (M := mX12_sortOf) (v := 115) dX12_sortOf_11 rfl ?_
  obtain ⟨v1, he1, h⟩ := obind h
  refine y_Sl (M := mX12_sortOf) (Y := mX12_w6) (d2 := d - 1) (As := [.int (108 : Int32), .int (105 : Int32), .int (103 : Int32), .int (104 : Int32), .int (116 : Int32), .int (115 : Int32)]) (st := [.ref 313]) dX12_sortOf_13 mlRX12_255 cv_X12_w6 (ct_Md_w6 (dle (Nat.le_of_ble_eq_true rfl) hd0) he1) (dps (Nat.le_of_ble_eq_true rfl) hd0) rfl rfl (Nat.le_of_ble_eq_true rfl) ?_
  obtain ⟨v2, he2, h⟩ := obind h
  refine y_Vi (M := mX12_sortOf) (Y := mX12_isWord) (d2 := d - 1) (As := [.long v1]) (st := []) dX12_sortOf_16 mlRX12_216 cv_X12_isWord zk_313 (ct_Md_isWord (dle (Nat.le_of_ble_eq_true rfl) hd0) he2) (dps (Nat.le_of_ble_eq_true rfl) hd0) rfl rfl (Nat.le_of_ble_eq_true rfl) ?_
  refine z_if_eq 24 dX12_sortOf_19 rfl (fun hc3 => ?_) (fun hc3 => ?_)
  · replace h := oT hc3 h
    refine z_aload_n dX12_sortOf_24 0 rfl ?_
    refine z_bipush (M := mX12_sortOf) (v := 102) dX12_sortOf_25 rfl ?_
    refine z_bipush (M := mX12_sortOf) (v := 97) dX12_sortOf_27 rfl ?_
    refine z_bipush (M := mX12_sortOf) (v := 105) dX12_sortOf_29 rfl ?_
    refine z_bipush (M := mX12_sortOf) (v := 108) dX12_sortOf_31 rfl ?_
    refine z_bipush (M := mX12_sortOf) (v := 115) dX12_sortOf_33 rfl ?_
    obtain ⟨v4, he4, h⟩ := obind h
    refine y_Sl (M := mX12_sortOf) (Y := mX12_w5) (d2 := d - 1) (As := [.int (102 : Int32), .int (97 : Int32), .int (105 : Int32), .int (108 : Int32), .int (115 : Int32)]) (st := [.ref 313]) dX12_sortOf_35 mlRX12_168 cv_X12_w5 (ct_Md_w5 (dle (Nat.le_of_ble_eq_true rfl) hd0) he4) (dps (Nat.le_of_ble_eq_true rfl) hd0) rfl rfl (Nat.le_of_ble_eq_true rfl) ?_
    obtain ⟨v5, he5, h⟩ := obind h
    refine y_Vi (M := mX12_sortOf) (Y := mX12_isWord) (d2 := d - 1) (As := [.long v4]) (st := []) dX12_sortOf_38 mlRX12_216 cv_X12_isWord zk_313 (ct_Md_isWord (dle (Nat.le_of_ble_eq_true rfl) hd0) he5) (dps (Nat.le_of_ble_eq_true rfl) hd0) rfl rfl (Nat.le_of_ble_eq_true rfl) ?_
    refine z_if_eq 46 dX12_sortOf_41 rfl (fun hc6 => ?_) (fun hc6 => ?_)
    · replace h := oT hc6 h
      refine z_aload_n dX12_sortOf_46 0 rfl ?_
      refine z_bipush (M := mX12_sortOf) (v := 99) dX12_sortOf_47 rfl ?_
      refine z_bipush (M := mX12_sortOf) (v := 111) dX12_sortOf_49 rfl ?_
      refine z_bipush (M := mX12_sortOf) (v := 114) dX12_sortOf_51 rfl ?_
      refine z_bipush (M := mX12_sortOf) (v := 100) dX12_sortOf_53 rfl ?_
      obtain ⟨v7, he7, h⟩ := obind h
      refine y_Sl (M := mX12_sortOf) (Y := mX12_w4) (d2 := d - 1) (As := [.int (99 : Int32), .int (111 : Int32), .int (114 : Int32), .int (100 : Int32)]) (st := [.ref 313]) dX12_sortOf_55 mlRX12_164 cv_X12_w4 (ct_Md_w4 (dle (Nat.le_of_ble_eq_true rfl) hd0) he7) (dps (Nat.le_of_ble_eq_true rfl) hd0) rfl rfl (Nat.le_of_ble_eq_true rfl) ?_
      obtain ⟨v8, he8, h⟩ := obind h
      refine y_Vi (M := mX12_sortOf) (Y := mX12_isWord) (d2 := d - 1) (As := [.long v7]) (st := []) dX12_sortOf_58 mlRX12_216 cv_X12_isWord zk_313 (ct_Md_isWord (dle (Nat.le_of_ble_eq_true rfl) hd0) he8) (dps (Nat.le_of_ble_eq_true rfl) hd0) rfl rfl (Nat.le_of_ble_eq_true rfl) ?_
      refine z_if_eq 66 dX12_sortOf_61 rfl (fun hc9 => ?_) (fun hc9 => ?_)
      · replace h := oT hc9 h
        refine z_aload_n dX12_sortOf_66 0 rfl ?_
        refine z_bipush (M := mX12_sortOf) (v := 104) dX12_sortOf_67 rfl ?_
        refine z_bipush (M := mX12_sortOf) (v := 97) dX12_sortOf_69 rfl ?_
        refine z_bipush (M := mX12_sortOf) (v := 110) dX12_sortOf_71 rfl ?_
        refine z_bipush (M := mX12_sortOf) (v := 100) dX12_sortOf_73 rfl ?_
        refine z_bipush (M := mX12_sortOf) (v := 115) dX12_sortOf_75 rfl ?_
        obtain ⟨v10, he10, h⟩ := obind h
        refine y_Sl (M := mX12_sortOf) (Y := mX12_w5) (d2 := d - 1) (As := [.int (104 : Int32), .int (97 : Int32), .int (110 : Int32), .int (100 : Int32), .int (115 : Int32)]) (st := [.ref 313]) dX12_sortOf_77 mlRX12_168 cv_X12_w5 (ct_Md_w5 (dle (Nat.le_of_ble_eq_true rfl) hd0) he10) (dps (Nat.le_of_ble_eq_true rfl) hd0) rfl rfl (Nat.le_of_ble_eq_true rfl) ?_
        obtain ⟨v11, he11, h⟩ := obind h
        refine y_Vi (M := mX12_sortOf) (Y := mX12_isWord) (d2 := d - 1) (As := [.long v10]) (st := []) dX12_sortOf_80 mlRX12_216 cv_X12_isWord zk_313 (ct_Md_isWord (dle (Nat.le_of_ble_eq_true rfl) hd0) he11) (dps (Nat.le_of_ble_eq_true rfl) hd0) rfl rfl (Nat.le_of_ble_eq_true rfl) ?_
        refine z_if_eq 88 dX12_sortOf_83 rfl (fun hc12 => ?_) (fun hc12 => ?_)
        · replace h := oT hc12 h
          refine z_aload_n dX12_sortOf_88 0 rfl ?_
          refine z_bipush (M := mX12_sortOf) (v := 108) dX12_sortOf_89 rfl ?_
          refine z_bipush (M := mX12_sortOf) (v := 101) dX12_sortOf_91 rfl ?_
          refine z_bipush (M := mX12_sortOf) (v := 102) dX12_sortOf_93 rfl ?_
          refine z_bipush (M := mX12_sortOf) (v := 116) dX12_sortOf_95 rfl ?_
          obtain ⟨v13, he13, h⟩ := obind h
          refine y_Sl (M := mX12_sortOf) (Y := mX12_w4) (d2 := d - 1) (As := [.int (108 : Int32), .int (101 : Int32), .int (102 : Int32), .int (116 : Int32)]) (st := [.ref 313]) dX12_sortOf_97 mlRX12_164 cv_X12_w4 (ct_Md_w4 (dle (Nat.le_of_ble_eq_true rfl) hd0) he13) (dps (Nat.le_of_ble_eq_true rfl) hd0) rfl rfl (Nat.le_of_ble_eq_true rfl) ?_
          obtain ⟨v14, he14, h⟩ := obind h
          refine y_Vi (M := mX12_sortOf) (Y := mX12_isWord) (d2 := d - 1) (As := [.long v13]) (st := []) dX12_sortOf_100 mlRX12_216 cv_X12_isWord zk_313 (ct_Md_isWord (dle (Nat.le_of_ble_eq_true rfl) hd0) he14) (dps (Nat.le_of_ble_eq_true rfl) hd0) rfl rfl (Nat.le_of_ble_eq_true rfl) ?_
          refine z_if_eq 108 dX12_sortOf_103 rfl (fun hc15 => ?_) (fun hc15 => ?_)
          · replace h := oT hc15 h
            refine z_aload_n dX12_sortOf_108 0 rfl ?_
            refine z_bipush (M := mX12_sortOf) (v := 114) dX12_sortOf_109 rfl ?_
            refine z_bipush (M := mX12_sortOf) (v := 105) dX12_sortOf_111 rfl ?_
            refine z_bipush (M := mX12_sortOf) (v := 103) dX12_sortOf_113 rfl ?_
            refine z_bipush (M := mX12_sortOf) (v := 104) dX12_sortOf_115 rfl ?_
            refine z_bipush (M := mX12_sortOf) (v := 116) dX12_sortOf_117 rfl ?_
            obtain ⟨v16, he16, h⟩ := obind h
            refine y_Sl (M := mX12_sortOf) (Y := mX12_w5) (d2 := d - 1) (As := [.int (114 : Int32), .int (105 : Int32), .int (103 : Int32), .int (104 : Int32), .int (116 : Int32)]) (st := [.ref 313]) dX12_sortOf_119 mlRX12_168 cv_X12_w5 (ct_Md_w5 (dle (Nat.le_of_ble_eq_true rfl) hd0) he16) (dps (Nat.le_of_ble_eq_true rfl) hd0) rfl rfl (Nat.le_of_ble_eq_true rfl) ?_
            obtain ⟨v17, he17, h⟩ := obind h
            refine y_Vi (M := mX12_sortOf) (Y := mX12_isWord) (d2 := d - 1) (As := [.long v16]) (st := []) dX12_sortOf_122 mlRX12_216 cv_X12_isWord zk_313 (ct_Md_isWord (dle (Nat.le_of_ble_eq_true rfl) hd0) he17) (dps (Nat.le_of_ble_eq_true rfl) hd0) rfl rfl (Nat.le_of_ble_eq_true rfl) ?_
            refine z_if_eq 130 dX12_sortOf_125 rfl (fun hc18 => ?_) (fun hc18 => ?_)
            · replace h := oT hc18 h
              refine z_aload_n dX12_sortOf_130 0 rfl ?_
              refine z_bipush (M := mX12_sortOf) (v := 115) dX12_sortOf_131 rfl ?_
              refine z_bipush (M := mX12_sortOf) (v := 110) dX12_sortOf_133 rfl ?_
              refine z_bipush (M := mX12_sortOf) (v := 117) dX12_sortOf_135 rfl ?_
              refine z_bipush (M := mX12_sortOf) (v := 102) dX12_sortOf_137 rfl ?_
              refine z_bipush (M := mX12_sortOf) (v := 102) dX12_sortOf_139 rfl ?_
              obtain ⟨v19, he19, h⟩ := obind h
              refine y_Sl (M := mX12_sortOf) (Y := mX12_w5) (d2 := d - 1) (As := [.int (115 : Int32), .int (110 : Int32), .int (117 : Int32), .int (102 : Int32), .int (102 : Int32)]) (st := [.ref 313]) dX12_sortOf_141 mlRX12_168 cv_X12_w5 (ct_Md_w5 (dle (Nat.le_of_ble_eq_true rfl) hd0) he19) (dps (Nat.le_of_ble_eq_true rfl) hd0) rfl rfl (Nat.le_of_ble_eq_true rfl) ?_
              obtain ⟨v20, he20, h⟩ := obind h
              refine y_Vi (M := mX12_sortOf) (Y := mX12_isWord) (d2 := d - 1) (As := [.long v19]) (st := []) dX12_sortOf_144 mlRX12_216 cv_X12_isWord zk_313 (ct_Md_isWord (dle (Nat.le_of_ble_eq_true rfl) hd0) he20) (dps (Nat.le_of_ble_eq_true rfl) hd0) rfl rfl (Nat.le_of_ble_eq_true rfl) ?_
              refine z_if_eq 153 dX12_sortOf_147 rfl (fun hc21 => ?_) (fun hc21 => ?_)
              · replace h := oT hc21 h
                refine z_aload_n dX12_sortOf_153 0 rfl ?_
                refine z_bipush (M := mX12_sortOf) (v := 114) dX12_sortOf_154 rfl ?_
                refine z_bipush (M := mX12_sortOf) (v := 101) dX12_sortOf_156 rfl ?_
                refine z_bipush (M := mX12_sortOf) (v := 110) dX12_sortOf_158 rfl ?_
                refine z_bipush (M := mX12_sortOf) (v := 101) dX12_sortOf_160 rfl ?_
                refine z_bipush (M := mX12_sortOf) (v := 119) dX12_sortOf_162 rfl ?_
                obtain ⟨v22, he22, h⟩ := obind h
                refine y_Sl (M := mX12_sortOf) (Y := mX12_w5) (d2 := d - 1) (As := [.int (114 : Int32), .int (101 : Int32), .int (110 : Int32), .int (101 : Int32), .int (119 : Int32)]) (st := [.ref 313]) dX12_sortOf_164 mlRX12_168 cv_X12_w5 (ct_Md_w5 (dle (Nat.le_of_ble_eq_true rfl) hd0) he22) (dps (Nat.le_of_ble_eq_true rfl) hd0) rfl rfl (Nat.le_of_ble_eq_true rfl) ?_
                obtain ⟨v23, he23, h⟩ := obind h
                refine y_Vi (M := mX12_sortOf) (Y := mX12_isWord) (d2 := d - 1) (As := [.long v22]) (st := []) dX12_sortOf_167 mlRX12_216 cv_X12_isWord zk_313 (ct_Md_isWord (dle (Nat.le_of_ble_eq_true rfl) hd0) he23) (dps (Nat.le_of_ble_eq_true rfl) hd0) rfl rfl (Nat.le_of_ble_eq_true rfl) ?_
                refine z_if_eq 176 dX12_sortOf_170 rfl (fun hc24 => ?_) (fun hc24 => ?_)
                · replace h := oT hc24 h
                  refine z_aload_n dX12_sortOf_176 0 rfl ?_
                  refine z_bipush (M := mX12_sortOf) (v := 98) dX12_sortOf_177 rfl ?_
                  refine z_bipush (M := mX12_sortOf) (v := 117) dX12_sortOf_179 rfl ?_
                  refine z_bipush (M := mX12_sortOf) (v := 114) dX12_sortOf_181 rfl ?_
                  refine z_bipush (M := mX12_sortOf) (v := 110) dX12_sortOf_183 rfl ?_
                  obtain ⟨v25, he25, h⟩ := obind h
                  refine y_Sl (M := mX12_sortOf) (Y := mX12_w4) (d2 := d - 1) (As := [.int (98 : Int32), .int (117 : Int32), .int (114 : Int32), .int (110 : Int32)]) (st := [.ref 313]) dX12_sortOf_185 mlRX12_164 cv_X12_w4 (ct_Md_w4 (dle (Nat.le_of_ble_eq_true rfl) hd0) he25) (dps (Nat.le_of_ble_eq_true rfl) hd0) rfl rfl (Nat.le_of_ble_eq_true rfl) ?_
                  obtain ⟨v26, he26, h⟩ := obind h
                  refine y_Vi (M := mX12_sortOf) (Y := mX12_isWord) (d2 := d - 1) (As := [.long v25]) (st := []) dX12_sortOf_188 mlRX12_216 cv_X12_isWord zk_313 (ct_Md_isWord (dle (Nat.le_of_ble_eq_true rfl) hd0) he26) (dps (Nat.le_of_ble_eq_true rfl) hd0) rfl rfl (Nat.le_of_ble_eq_true rfl) ?_
                  refine z_if_eq 199 dX12_sortOf_191 rfl (fun hc27 => ?_) (fun hc27 => ?_)
                  · replace h := oT hc27 h
                    refine z_aload_n dX12_sortOf_199 0 rfl ?_
                    refine z_bipush (M := mX12_sortOf) (v := 109) dX12_sortOf_200 rfl ?_
                    refine z_bipush (M := mX12_sortOf) (v := 105) dX12_sortOf_202 rfl ?_
                    refine z_bipush (M := mX12_sortOf) (v := 110) dX12_sortOf_204 rfl ?_
                    refine z_bipush (M := mX12_sortOf) (v := 117) dX12_sortOf_206 rfl ?_
                    refine z_bipush (M := mX12_sortOf) (v := 116) dX12_sortOf_208 rfl ?_
                    refine z_bipush (M := mX12_sortOf) (v := 101) dX12_sortOf_210 rfl ?_
                    obtain ⟨v28, he28, h⟩ := obind h
                    refine y_Sl (M := mX12_sortOf) (Y := mX12_w6) (d2 := d - 1) (As := [.int (109 : Int32), .int (105 : Int32), .int (110 : Int32), .int (117 : Int32), .int (116 : Int32), .int (101 : Int32)]) (st := [.ref 313]) dX12_sortOf_212 mlRX12_255 cv_X12_w6 (ct_Md_w6 (dle (Nat.le_of_ble_eq_true rfl) hd0) he28) (dps (Nat.le_of_ble_eq_true rfl) hd0) rfl rfl (Nat.le_of_ble_eq_true rfl) ?_
                    obtain ⟨v29, he29, h⟩ := obind h
                    refine y_Vi (M := mX12_sortOf) (Y := mX12_isWord) (d2 := d - 1) (As := [.long v28]) (st := []) dX12_sortOf_215 mlRX12_216 cv_X12_isWord zk_313 (ct_Md_isWord (dle (Nat.le_of_ble_eq_true rfl) hd0) he29) (dps (Nat.le_of_ble_eq_true rfl) hd0) rfl rfl (Nat.le_of_ble_eq_true rfl) ?_
                    refine z_if_eq 226 dX12_sortOf_218 rfl (fun hc30 => ?_) (fun hc30 => ?_)
                    · replace h := oT hc30 h
                      refine z_iconst (M := mX12_sortOf) (v := -1) dX12_sortOf_226 rfl ?_
                      cases h
                      exact z_iret dX12_sortOf_227 rfl
                    · replace h := oF hc30 h
                      refine z_bipush (M := mX12_sortOf) (v := 9) dX12_sortOf_221 rfl ?_
                      refine z_goto 227 dX12_sortOf_223 rfl ?_
                      cases h
                      exact z_iret dX12_sortOf_227 rfl
                  · replace h := oF hc27 h
                    refine z_bipush (M := mX12_sortOf) (v := 8) dX12_sortOf_194 rfl ?_
                    refine z_goto 227 dX12_sortOf_196 rfl ?_
                    cases h
                    exact z_iret dX12_sortOf_227 rfl
                · replace h := oF hc24 h
                  refine z_bipush (M := mX12_sortOf) (v := 7) dX12_sortOf_173 rfl ?_
                  cases h
                  exact z_iret dX12_sortOf_175 rfl
              · replace h := oF hc21 h
                refine z_bipush (M := mX12_sortOf) (v := 6) dX12_sortOf_150 rfl ?_
                cases h
                exact z_iret dX12_sortOf_152 rfl
            · replace h := oF hc18 h
              refine z_iconst (M := mX12_sortOf) (v := 5) dX12_sortOf_128 rfl ?_
              cases h
              exact z_iret dX12_sortOf_129 rfl
          · replace h := oF hc15 h
            refine z_iconst (M := mX12_sortOf) (v := 4) dX12_sortOf_106 rfl ?_
            cases h
            exact z_iret dX12_sortOf_107 rfl
        · replace h := oF hc12 h
          refine z_iconst (M := mX12_sortOf) (v := 3) dX12_sortOf_86 rfl ?_
          cases h
          exact z_iret dX12_sortOf_87 rfl
      · replace h := oF hc9 h
        refine z_iconst (M := mX12_sortOf) (v := 2) dX12_sortOf_64 rfl ?_
        cases h
        exact z_iret dX12_sortOf_65 rfl
    · replace h := oF hc6 h
      refine z_iconst (M := mX12_sortOf) (v := 1) dX12_sortOf_44 rfl ?_
      cases h
      exact z_iret dX12_sortOf_45 rfl
  · replace h := oF hc3 h
    refine z_iconst (M := mX12_sortOf) (v := 0) dX12_sortOf_22 rfl ?_
    cases h
    exact z_iret dX12_sortOf_23 rfl
theorem ct_Md_sortOf {g : GG} {d : Nat} {ν : Nm} {r : Int32} (hd0 : 6 ≤ d)  (h : Md_sortOf ν = some r) : Ct g d mX12_sortOf [.ref 313] (zem ν) (some (.int r), zem ν) := y_entry in_X12_sortOf (Nat.le_of_ble_eq_true rfl) rfl (t_Md_sortOf hd0 r h)
-- FuseMinutesModel.clause()I
theorem dX12_clause_0 : decode cX12_clause 0 = .ok (.aload_n 0, 1) := by decide +kernel
theorem dX12_clause_1 : decode cX12_clause 1 = .ok (.invokevirtual 259, 3) := by decide +kernel
theorem dX12_clause_4 : decode cX12_clause 4 = .ok (.istore_n 1, 1) := by decide +kernel
theorem dX12_clause_5 : decode cX12_clause 5 = .ok (.iload_n 1, 1) := by decide +kernel
theorem dX12_clause_6 : decode cX12_clause 6 = .ok (.ifCond .ge 5, 3) := by decide +kernel
theorem dX12_clause_9 : decode cX12_clause 9 = .ok (.iconst 1, 1) := by decide +kernel
theorem dX12_clause_10 : decode cX12_clause 10 = .ok (.ireturn, 1) := by decide +kernel
theorem dX12_clause_11 : decode cX12_clause 11 = .ok (.iload_n 1, 1) := by decide +kernel
theorem dX12_clause_12 : decode cX12_clause 12 = .ok (.iconst 1, 1) := by decide +kernel
theorem dX12_clause_13 : decode cX12_clause 13 = .ok (.if_icmp .gt 16, 3) := by decide +kernel
theorem dX12_clause_16 : decode cX12_clause 16 = .ok (.aload_n 0, 1) := by decide +kernel
theorem dX12_clause_17 : decode cX12_clause 17 = .ok (.getfield 262, 3) := by decide +kernel
theorem dX12_clause_20 : decode cX12_clause 20 = .ok (.iload_n 1, 1) := by decide +kernel
theorem dX12_clause_21 : decode cX12_clause 21 = .ok (.invokestatic 92, 3) := by decide +kernel
theorem dX12_clause_24 : decode cX12_clause 24 = .ok (.ifCond .eq 5, 3) := by decide +kernel
theorem dX12_clause_27 : decode cX12_clause 27 = .ok (.iconst 4, 1) := by decide +kernel
theorem dX12_clause_28 : decode cX12_clause 28 = .ok (.ireturn, 1) := by decide +kernel
theorem dX12_clause_29 : decode cX12_clause 29 = .ok (.aload_n 0, 1) := by decide +kernel
theorem dX12_clause_30 : decode cX12_clause 30 = .ok (.getfield 16, 3) := by decide +kernel
theorem dX12_clause_33 : decode cX12_clause 33 = .ok (.aload_n 0, 1) := by decide +kernel
theorem dX12_clause_34 : decode cX12_clause 34 = .ok (.getfield 172, 3) := by decide +kernel
theorem dX12_clause_37 : decode cX12_clause 37 = .ok (.iaload, 1) := by decide +kernel
theorem dX12_clause_38 : decode cX12_clause 38 = .ok (.istore_n 2, 1) := by decide +kernel
theorem dX12_clause_39 : decode cX12_clause 39 = .ok (.iload_n 2, 1) := by decide +kernel
theorem dX12_clause_40 : decode cX12_clause 40 = .ok (.bipush 24, 2) := by decide +kernel
theorem dX12_clause_42 : decode cX12_clause 42 = .ok (.if_icmp .ne 6, 3) := by decide +kernel
theorem dX12_clause_45 : decode cX12_clause 45 = .ok (.bipush 6, 2) := by decide +kernel
theorem dX12_clause_47 : decode cX12_clause 47 = .ok (.ireturn, 1) := by decide +kernel
theorem dX12_clause_48 : decode cX12_clause 48 = .ok (.iload_n 1, 1) := by decide +kernel
theorem dX12_clause_49 : decode cX12_clause 49 = .ok (.iconst 1, 1) := by decide +kernel
theorem dX12_clause_50 : decode cX12_clause 50 = .ok (.if_icmp .gt 15, 3) := by decide +kernel
theorem dX12_clause_53 : decode cX12_clause 53 = .ok (.aload_n 0, 1) := by decide +kernel
theorem dX12_clause_54 : decode cX12_clause 54 = .ok (.dup, 1) := by decide +kernel
theorem dX12_clause_55 : decode cX12_clause 55 = .ok (.getfield 262, 3) := by decide +kernel
theorem dX12_clause_58 : decode cX12_clause 58 = .ok (.iconst 1, 1) := by decide +kernel
theorem dX12_clause_59 : decode cX12_clause 59 = .ok (.iload_n 1, 1) := by decide +kernel
theorem dX12_clause_60 : decode cX12_clause 60 = .ok (.ishl, 1) := by decide +kernel
theorem dX12_clause_61 : decode cX12_clause 61 = .ok (.ior, 1) := by decide +kernel
theorem dX12_clause_62 : decode cX12_clause 62 = .ok (.putfield 262, 3) := by decide +kernel
theorem dX12_clause_65 : decode cX12_clause 65 = .ok (.aload_n 0, 1) := by decide +kernel
theorem dX12_clause_66 : decode cX12_clause 66 = .ok (.iload_n 1, 1) := by decide +kernel
theorem dX12_clause_67 : decode cX12_clause 67 = .ok (.putfield 204, 3) := by decide +kernel
theorem dX12_clause_70 : decode cX12_clause 70 = .ok (.aload_n 0, 1) := by decide +kernel
theorem dX12_clause_71 : decode cX12_clause 71 = .ok (.invokevirtual 198, 3) := by decide +kernel
theorem dX12_clause_74 : decode cX12_clause 74 = .ok (.aload_n 0, 1) := by decide +kernel
theorem dX12_clause_75 : decode cX12_clause 75 = .ok (.getfield 172, 3) := by decide +kernel
theorem dX12_clause_78 : decode cX12_clause 78 = .ok (.iconst 1, 1) := by decide +kernel
theorem dX12_clause_79 : decode cX12_clause 79 = .ok (.iadd, 1) := by decide +kernel
theorem dX12_clause_80 : decode cX12_clause 80 = .ok (.iconst 3, 1) := by decide +kernel
theorem dX12_clause_81 : decode cX12_clause 81 = .ok (.iload_n 2, 1) := by decide +kernel
theorem dX12_clause_82 : decode cX12_clause 82 = .ok (.imul, 1) := by decide +kernel
theorem dX12_clause_83 : decode cX12_clause 83 = .ok (.iadd, 1) := by decide +kernel
theorem dX12_clause_84 : decode cX12_clause 84 = .ok (.istore_n 3, 1) := by decide +kernel
theorem dX12_clause_85 : decode cX12_clause 85 = .ok (.aload_n 0, 1) := by decide +kernel
theorem dX12_clause_86 : decode cX12_clause 86 = .ok (.getfield 16, 3) := by decide +kernel
theorem dX12_clause_89 : decode cX12_clause 89 = .ok (.iload_n 3, 1) := by decide +kernel
theorem dX12_clause_90 : decode cX12_clause 90 = .ok (.iload_n 1, 1) := by decide +kernel
theorem dX12_clause_91 : decode cX12_clause 91 = .ok (.iastore, 1) := by decide +kernel
theorem dX12_clause_92 : decode cX12_clause 92 = .ok (.aload_n 0, 1) := by decide +kernel
theorem dX12_clause_93 : decode cX12_clause 93 = .ok (.iload_n 1, 1) := by decide +kernel
theorem dX12_clause_94 : decode cX12_clause 94 = .ok (.iload_n 3, 1) := by decide +kernel
theorem dX12_clause_95 : decode cX12_clause 95 = .ok (.invokevirtual 265, 3) := by decide +kernel
theorem dX12_clause_98 : decode cX12_clause 98 = .ok (.istore 4, 2) := by decide +kernel
theorem dX12_clause_100 : decode cX12_clause 100 = .ok (.iload 4, 2) := by decide +kernel
theorem dX12_clause_102 : decode cX12_clause 102 = .ok (.ifCond .eq 6, 3) := by decide +kernel
theorem dX12_clause_105 : decode cX12_clause 105 = .ok (.iload 4, 2) := by decide +kernel
theorem dX12_clause_107 : decode cX12_clause 107 = .ok (.ireturn, 1) := by decide +kernel
theorem dX12_clause_108 : decode cX12_clause 108 = .ok (.aload_n 0, 1) := by decide +kernel
theorem dX12_clause_109 : decode cX12_clause 109 = .ok (.getfield 16, 3) := by decide +kernel
theorem dX12_clause_112 : decode cX12_clause 112 = .ok (.aload_n 0, 1) := by decide +kernel
theorem dX12_clause_113 : decode cX12_clause 113 = .ok (.getfield 172, 3) := by decide +kernel
theorem dX12_clause_116 : decode cX12_clause 116 = .ok (.dup2, 1) := by decide +kernel
theorem dX12_clause_117 : decode cX12_clause 117 = .ok (.iaload, 1) := by decide +kernel
theorem dX12_clause_118 : decode cX12_clause 118 = .ok (.iconst 1, 1) := by decide +kernel
theorem dX12_clause_119 : decode cX12_clause 119 = .ok (.iadd, 1) := by decide +kernel
theorem dX12_clause_120 : decode cX12_clause 120 = .ok (.iastore, 1) := by decide +kernel
theorem dX12_clause_121 : decode cX12_clause 121 = .ok (.aload_n 0, 1) := by decide +kernel
theorem dX12_clause_122 : decode cX12_clause 122 = .ok (.getfield 134, 3) := by decide +kernel
theorem dX12_clause_125 : decode cX12_clause 125 = .ok (.bipush 59, 2) := by decide +kernel
theorem dX12_clause_127 : decode cX12_clause 127 = .ok (.if_icmp .eq 5, 3) := by decide +kernel
theorem dX12_clause_130 : decode cX12_clause 130 = .ok (.iconst 1, 1) := by decide +kernel
theorem dX12_clause_131 : decode cX12_clause 131 = .ok (.ireturn, 1) := by decide +kernel
theorem dX12_clause_132 : decode cX12_clause 132 = .ok (.aload_n 0, 1) := by decide +kernel
theorem dX12_clause_133 : decode cX12_clause 133 = .ok (.invokevirtual 198, 3) := by decide +kernel
theorem dX12_clause_136 : decode cX12_clause 136 = .ok (.iconst 0, 1) := by decide +kernel
theorem dX12_clause_137 : decode cX12_clause 137 = .ok (.ireturn, 1) := by decide +kernel
def Md_clause_65 (x1 : Int32) (x2 : Int32) (ν : Nm) : Option (Int32 × Nm) :=
  (Md_nextToken (si ν 313 14 x1)).bind fun v1 =>
  if inb (((gi v1 313 12) + (1 : Int32)) + ((3 : Int32) * x2)) 2724 then
  (Md_body x1 (((gi v1 313 12) + (1 : Int32)) + ((3 : Int32) * x2)) (si v1 316 (((gi v1 313 12) + (1 : Int32)) + ((3 : Int32) * x2)).toNatClampNeg x1)).bind fun v3 =>
  (if v3.1 = 0 then
    if inb (gi v3.2 313 12) 2724 then
    if inb (gi v3.2 313 12) 2724 then
    (if (gi (si v3.2 316 (gi v3.2 313 12).toNatClampNeg ((gi v3.2 316 (gi v3.2 313 12).toNatClampNeg) + (1 : Int32))) 313 9) = (59 : Int32) then
      (Md_nextToken (si v3.2 316 (gi v3.2 313 12).toNatClampNeg ((gi v3.2 316 (gi v3.2 313 12).toNatClampNeg) + (1 : Int32)))).bind fun v8 =>
      some ((0 : Int32), v8)
    else
      some ((1 : Int32), (si v3.2 316 (gi v3.2 313 12).toNatClampNeg ((gi v3.2 316 (gi v3.2 313 12).toNatClampNeg) + (1 : Int32)))))
    else none
    else none
  else
    some (v3.1, v3.2))
  else none
set_option maxRecDepth 100000 in
set_option maxHeartbeats 4000000 in
theorem t_Md_clause_65 {g : GG} {d : Nat} (hd0 : 10 ≤ d) : ∀ (x1 : Int32) (x2 : Int32) (ν : Nm) (r : (Int32 × Nm)), Md_clause_65 x1 x2 ν = some r → Z g d (0, 0) mX12_clause 333 0 0 65 [(0, .ref 313), (1, .int x1), (2, .int x2)] [] (zem ν) (zF g (some (.int r.1), zem r.2)) := by
  intro x1 x2 ν r h
  unfold Md_clause_65 at h
  refine z_aload_n dX12_clause_65 0 rfl ?_
  refine z_iload_n dX12_clause_66 1 rfl ?_
  refine y_putI dX12_clause_67 zk_313 flRX12_204 ⟨rfl, rfl⟩ ?_
  refine z_aload_n dX12_clause_70 0 rfl ?_
  obtain ⟨v1, he1, h⟩ := obind h
  refine y_Vv (M := mX12_clause) (Y := mX12_nextToken) (d2 := d - 1) (As := []) (st := []) dX12_clause_71 mlRX12_198 cv_X12_nextToken zk_313 (ct_Md_nextToken (dle (Nat.le_of_ble_eq_true rfl) hd0) he1) (dps (Nat.le_of_ble_eq_true rfl) hd0) rfl rfl (Nat.le_of_ble_eq_true rfl) ?_
  refine z_aload_n dX12_clause_74 0 rfl ?_
  refine y_getI dX12_clause_75 zk_313 flRX12_172 ?_
  refine z_iconst (M := mX12_clause) (v := 1) dX12_clause_78 rfl ?_
  refine z_iadd dX12_clause_79 ?_
  refine z_iconst (M := mX12_clause) (v := 3) dX12_clause_80 rfl ?_
  refine z_iload_n dX12_clause_81 2 rfl ?_
  refine z_imul dX12_clause_82 ?_
  refine z_iadd dX12_clause_83 ?_
  refine z_istore_n (M := mX12_clause) (lv2 := [(3, .int (((gi v1 313 12) + (1 : Int32)) + ((3 : Int32) * x2))), (0, .ref 313), (1, .int x1), (2, .int x2)]) dX12_clause_84 (Nat.le_of_ble_eq_true rfl) rfl ?_
  refine z_aload_n dX12_clause_85 1 rfl ?_
  refine y_getR (M := mX12_clause) (r := 316) dX12_clause_86 zk_313 flRX12_16 fr_10_2.1 (fr_10_2.2 _) ?_
  refine z_iload_n dX12_clause_89 0 rfl ?_
  refine z_iload_n dX12_clause_90 2 rfl ?_
  obtain ⟨hi2, h⟩ := oif h
  refine y_iast (M := mX12_clause) (jj := (((gi v1 313 12) + (1 : Int32)) + ((3 : Int32) * x2)).toNatClampNeg) dX12_clause_91 zk_316 hi2 rfl ?_
  refine z_aload_n dX12_clause_92 1 rfl ?_
  refine z_iload_n dX12_clause_93 2 rfl ?_
  refine z_iload_n dX12_clause_94 0 rfl ?_
  obtain ⟨v3, he3, h⟩ := obind h
  refine y_Vi (M := mX12_clause) (Y := mX12_body) (d2 := d - 1) (As := [.int x1, .int (((gi v1 313 12) + (1 : Int32)) + ((3 : Int32) * x2))]) (st := []) dX12_clause_95 mlRX12_265 cv_X12_body zk_313 (ct_Md_body (dle (Nat.le_of_ble_eq_true rfl) hd0) he3) (dps (Nat.le_of_ble_eq_true rfl) hd0) rfl rfl (Nat.le_of_ble_eq_true rfl) ?_
  refine z_istore (M := mX12_clause) (lv2 := [(4, .int v3.1), (3, .int (((gi v1 313 12) + (1 : Int32)) + ((3 : Int32) * x2))), (0, .ref 313), (1, .int x1), (2, .int x2)]) dX12_clause_98 (Nat.le_of_ble_eq_true rfl) rfl ?_
  refine z_iload dX12_clause_100 0 rfl ?_
  refine z_if_eq 108 dX12_clause_102 rfl (fun hc4 => ?_) (fun hc4 => ?_)
  · replace h := oT hc4 h
    refine z_aload_n dX12_clause_108 2 rfl ?_
    refine y_getR (M := mX12_clause) (r := 316) dX12_clause_109 zk_313 flRX12_16 fr_10_2.1 (fr_10_2.2 _) ?_
    refine z_aload_n dX12_clause_112 2 rfl ?_
    refine y_getI dX12_clause_113 zk_313 flRX12_172 ?_
    refine z_dup2 dX12_clause_116 rfl rfl ?_
    obtain ⟨hi5, h⟩ := oif h
    refine y_iald (M := mX12_clause) (jj := (gi v3.2 313 12).toNatClampNeg) dX12_clause_117 zk_316 hi5 rfl ?_
    refine z_iconst (M := mX12_clause) (v := 1) dX12_clause_118 rfl ?_
    refine z_iadd dX12_clause_119 ?_
    obtain ⟨hi6, h⟩ := oif h
    refine y_iast (M := mX12_clause) (jj := (gi v3.2 313 12).toNatClampNeg) dX12_clause_120 zk_316 hi6 rfl ?_
    refine z_aload_n dX12_clause_121 2 rfl ?_
    refine y_getI dX12_clause_122 zk_313 flRX12_134 ?_
    refine z_bipush (M := mX12_clause) (v := 59) dX12_clause_125 rfl ?_
    refine z_icmp_eq 132 dX12_clause_127 rfl (fun hc7 => ?_) (fun hc7 => ?_)
    · replace h := oT hc7 h
      refine z_aload_n dX12_clause_132 2 rfl ?_
      obtain ⟨v8, he8, h⟩ := obind h
      refine y_Vv (M := mX12_clause) (Y := mX12_nextToken) (d2 := d - 1) (As := []) (st := []) dX12_clause_133 mlRX12_198 cv_X12_nextToken zk_313 (ct_Md_nextToken (dle (Nat.le_of_ble_eq_true rfl) hd0) he8) (dps (Nat.le_of_ble_eq_true rfl) hd0) rfl rfl (Nat.le_of_ble_eq_true rfl) ?_
      refine z_iconst (M := mX12_clause) (v := 0) dX12_clause_136 rfl ?_
      cases h
      exact z_iret dX12_clause_137 rfl
    · replace h := oF hc7 h
      refine z_iconst (M := mX12_clause) (v := 1) dX12_clause_130 rfl ?_
      cases h
      exact z_iret dX12_clause_131 rfl
  · replace h := oF hc4 h
    refine z_iload dX12_clause_105 0 rfl ?_
    cases h
    exact z_iret dX12_clause_107 rfl
def Md_clause_29 (x1 : Int32) (ν : Nm) : Option (Int32 × Nm) :=
  if inb (gi ν 313 12) 2724 then
  (if ¬ (gi ν 316 (gi ν 313 12).toNatClampNeg) = (24 : Int32) then
    (if (1 : Int32) < x1 then
      Md_clause_65 x1 (gi ν 316 (gi ν 313 12).toNatClampNeg) ν
    else
      Md_clause_65 x1 (gi ν 316 (gi ν 313 12).toNatClampNeg) (si ν 313 19 ((gi ν 313 19) ||| ((1 : Int32) <<< (x1 &&& 31)))))
  else
    some ((6 : Int32), ν))
  else none
set_option maxRecDepth 100000 in
set_option maxHeartbeats 4000000 in
theorem t_Md_clause_29 {g : GG} {d : Nat} (hd0 : 10 ≤ d) : ∀ (x1 : Int32) (ν : Nm) (r : (Int32 × Nm)), Md_clause_29 x1 ν = some r → Z g d (0, 0) mX12_clause 333 0 0 29 [(0, .ref 313), (1, .int x1)] [] (zem ν) (zF g (some (.int r.1), zem r.2)) := by
  intro x1 ν r h
  unfold Md_clause_29 at h
  refine z_aload_n dX12_clause_29 0 rfl ?_
  refine y_getR (M := mX12_clause) (r := 316) dX12_clause_30 zk_313 flRX12_16 fr_10_2.1 (fr_10_2.2 _) ?_
  refine z_aload_n dX12_clause_33 0 rfl ?_
  refine y_getI dX12_clause_34 zk_313 flRX12_172 ?_
  obtain ⟨hi1, h⟩ := oif h
  refine y_iald (M := mX12_clause) (jj := (gi ν 313 12).toNatClampNeg) dX12_clause_37 zk_316 hi1 rfl ?_
  refine z_istore_n (M := mX12_clause) (lv2 := [(2, .int (gi ν 316 (gi ν 313 12).toNatClampNeg)), (0, .ref 313), (1, .int x1)]) dX12_clause_38 (Nat.le_of_ble_eq_true rfl) rfl ?_
  refine z_iload_n dX12_clause_39 0 rfl ?_
  refine z_bipush (M := mX12_clause) (v := 24) dX12_clause_40 rfl ?_
  refine z_icmp_ne 48 dX12_clause_42 rfl (fun hc2 => ?_) (fun hc2 => ?_)
  · replace h := oT hc2 h
    refine z_iload_n dX12_clause_48 2 rfl ?_
    refine z_iconst (M := mX12_clause) (v := 1) dX12_clause_49 rfl ?_
    refine z_icmp_gt 65 dX12_clause_50 rfl (fun hc3 => ?_) (fun hc3 => ?_)
    · replace h := oT hc3 h
      refine z_lv (lv2 := [(0, .ref 313), (1, .int x1), (2, .int (gi ν 316 (gi ν 313 12).toNatClampNeg))]) [1, 2, 0] rfl ?_
      exact t_Md_clause_65 hd0  x1 (gi ν 316 (gi ν 313 12).toNatClampNeg) ν _ h
    · replace h := oF hc3 h
      refine z_aload_n dX12_clause_53 1 rfl ?_
      refine z_dup dX12_clause_54 rfl ?_
      refine y_getI dX12_clause_55 zk_313 flRX12_262 ?_
      refine z_iconst (M := mX12_clause) (v := 1) dX12_clause_58 rfl ?_
      refine z_iload_n dX12_clause_59 2 rfl ?_
      refine z_ishl dX12_clause_60 ?_
      refine z_ior dX12_clause_61 ?_
      refine y_putI dX12_clause_62 zk_313 flRX12_262 ⟨rfl, rfl⟩ ?_
      refine z_lv (lv2 := [(0, .ref 313), (1, .int x1), (2, .int (gi ν 316 (gi ν 313 12).toNatClampNeg))]) [1, 2, 0] rfl ?_
      exact t_Md_clause_65 hd0  x1 (gi ν 316 (gi ν 313 12).toNatClampNeg) (si ν 313 19 ((gi ν 313 19) ||| ((1 : Int32) <<< (x1 &&& 31)))) _ h
  · replace h := oFn hc2 h
    refine z_bipush (M := mX12_clause) (v := 6) dX12_clause_45 rfl ?_
    cases h
    exact z_iret dX12_clause_47 rfl
def Md_clause (ν : Nm) : Option (Int32 × Nm) :=
  (Md_sortOf ν).bind fun v1 =>
  (if 0 ≤ v1 then
    (if (1 : Int32) < v1 then
      Md_clause_29 v1 ν
    else
      (Md_has (gi ν 313 19) v1).bind fun v4 =>
      (if (b2i v4) = 0 then
        Md_clause_29 v1 ν
      else
        some ((4 : Int32), ν)))
  else
    some ((1 : Int32), ν))
set_option maxRecDepth 100000 in
set_option maxHeartbeats 4000000 in
theorem t_Md_clause {g : GG} {d : Nat} (hd0 : 10 ≤ d) : ∀ (ν : Nm) (r : (Int32 × Nm)), Md_clause ν = some r → Z g d (0, 0) mX12_clause 333 0 0 0 [(0, .ref 313)] [] (zem ν) (zF g (some (.int r.1), zem r.2)) := by
  intro ν r h
  unfold Md_clause at h
  refine z_aload_n dX12_clause_0 0 rfl ?_
  obtain ⟨v1, he1, h⟩ := obind h
  refine y_Vi (M := mX12_clause) (Y := mX12_sortOf) (d2 := d - 1) (As := []) (st := []) dX12_clause_1 mlRX12_259 cv_X12_sortOf zk_313 (ct_Md_sortOf (dle (Nat.le_of_ble_eq_true rfl) hd0) he1) (dps (Nat.le_of_ble_eq_true rfl) hd0) rfl rfl (Nat.le_of_ble_eq_true rfl) ?_
  refine z_istore_n (M := mX12_clause) (lv2 := [(1, .int v1), (0, .ref 313)]) dX12_clause_4 (Nat.le_of_ble_eq_true rfl) rfl ?_
  refine z_iload_n dX12_clause_5 0 rfl ?_
  refine z_if_ge 11 dX12_clause_6 rfl (fun hc2 => ?_) (fun hc2 => ?_)
  · replace h := oT hc2 h
    refine z_iload_n dX12_clause_11 0 rfl ?_
    refine z_iconst (M := mX12_clause) (v := 1) dX12_clause_12 rfl ?_
    refine z_icmp_gt 29 dX12_clause_13 rfl (fun hc3 => ?_) (fun hc3 => ?_)
    · replace h := oT hc3 h
      refine z_lv (lv2 := [(0, .ref 313), (1, .int v1)]) [1, 0] rfl ?_
      exact t_Md_clause_29 hd0  v1 ν _ h
    · replace h := oF hc3 h
      refine z_aload_n dX12_clause_16 1 rfl ?_
      refine y_getI dX12_clause_17 zk_313 flRX12_262 ?_
      refine z_iload_n dX12_clause_20 0 rfl ?_
      obtain ⟨v4, he4, h⟩ := obind h
      refine y_Si (M := mX12_clause) (Y := mX12_has) (d2 := d - 1) (As := [.int (gi ν 313 19), .int v1]) (st := []) dX12_clause_21 mlRX12_92 cv_X12_has (ct_Md_has (dle (Nat.le_of_ble_eq_true rfl) hd0) he4) (dps (Nat.le_of_ble_eq_true rfl) hd0) rfl rfl (Nat.le_of_ble_eq_true rfl) ?_
      refine z_if_eq 29 dX12_clause_24 rfl (fun hc5 => ?_) (fun hc5 => ?_)
      · replace h := oT hc5 h
        refine z_lv (lv2 := [(0, .ref 313), (1, .int v1)]) [1, 0] rfl ?_
        exact t_Md_clause_29 hd0  v1 ν _ h
      · replace h := oF hc5 h
        refine z_iconst (M := mX12_clause) (v := 4) dX12_clause_27 rfl ?_
        cases h
        exact z_iret dX12_clause_28 rfl
  · replace h := oF hc2 h
    refine z_iconst (M := mX12_clause) (v := 1) dX12_clause_9 rfl ?_
    cases h
    exact z_iret dX12_clause_10 rfl
theorem ct_Md_clause {g : GG} {d : Nat} {ν : Nm} {r : (Int32 × Nm)} (hd0 : 10 ≤ d)  (h : Md_clause ν = some r) : Ct g d mX12_clause [.ref 313] (zem ν) (some (.int r.1), zem r.2) := y_entry in_X12_clause (Nat.le_of_ble_eq_true rfl) rfl (t_Md_clause hd0 ν r h)
-- FuseMinutesModel.readText()I
theorem dX12_readText_0 : decode cX12_readText 0 = .ok (.aload_n 0, 1) := by decide +kernel
theorem dX12_readText_1 : decode cX12_readText 1 = .ok (.sipush 681, 3) := by decide +kernel
theorem dX12_readText_4 : decode cX12_readText 4 = .ok (.aload_n 0, 1) := by decide +kernel
theorem dX12_readText_5 : decode cX12_readText 5 = .ok (.getfield 7, 3) := by decide +kernel
theorem dX12_readText_8 : decode cX12_readText 8 = .ok (.iconst 2, 1) := by decide +kernel
theorem dX12_readText_9 : decode cX12_readText 9 = .ok (.iaload, 1) := by decide +kernel
theorem dX12_readText_10 : decode cX12_readText 10 = .ok (.imul, 1) := by decide +kernel
theorem dX12_readText_11 : decode cX12_readText 11 = .ok (.putfield 172, 3) := by decide +kernel
theorem dX12_readText_14 : decode cX12_readText 14 = .ok (.aload_n 0, 1) := by decide +kernel
theorem dX12_readText_15 : decode cX12_readText 15 = .ok (.getfield 16, 3) := by decide +kernel
theorem dX12_readText_18 : decode cX12_readText 18 = .ok (.aload_n 0, 1) := by decide +kernel
theorem dX12_readText_19 : decode cX12_readText 19 = .ok (.getfield 172, 3) := by decide +kernel
theorem dX12_readText_22 : decode cX12_readText 22 = .ok (.iconst 0, 1) := by decide +kernel
theorem dX12_readText_23 : decode cX12_readText 23 = .ok (.iastore, 1) := by decide +kernel
theorem dX12_readText_24 : decode cX12_readText 24 = .ok (.aload_n 0, 1) := by decide +kernel
theorem dX12_readText_25 : decode cX12_readText 25 = .ok (.iconst 0, 1) := by decide +kernel
theorem dX12_readText_26 : decode cX12_readText 26 = .ok (.putfield 175, 3) := by decide +kernel
theorem dX12_readText_29 : decode cX12_readText 29 = .ok (.aload_n 0, 1) := by decide +kernel
theorem dX12_readText_30 : decode cX12_readText 30 = .ok (.iconst 0, 1) := by decide +kernel
theorem dX12_readText_31 : decode cX12_readText 31 = .ok (.putfield 262, 3) := by decide +kernel
theorem dX12_readText_34 : decode cX12_readText 34 = .ok (.aload_n 0, 1) := by decide +kernel
theorem dX12_readText_35 : decode cX12_readText 35 = .ok (.iconst 0, 1) := by decide +kernel
theorem dX12_readText_36 : decode cX12_readText 36 = .ok (.putfield 125, 3) := by decide +kernel
theorem dX12_readText_39 : decode cX12_readText 39 = .ok (.aload_n 0, 1) := by decide +kernel
theorem dX12_readText_40 : decode cX12_readText 40 = .ok (.invokevirtual 198, 3) := by decide +kernel
theorem dX12_readText_43 : decode cX12_readText 43 = .ok (.aload_n 0, 1) := by decide +kernel
theorem dX12_readText_44 : decode cX12_readText 44 = .ok (.getfield 134, 3) := by decide +kernel
theorem dX12_readText_47 : decode cX12_readText 47 = .ok (.ifCond .eq 17, 3) := by decide +kernel
theorem dX12_readText_50 : decode cX12_readText 50 = .ok (.aload_n 0, 1) := by decide +kernel
theorem dX12_readText_51 : decode cX12_readText 51 = .ok (.invokevirtual 268, 3) := by decide +kernel
theorem dX12_readText_54 : decode cX12_readText 54 = .ok (.istore_n 1, 1) := by decide +kernel
theorem dX12_readText_55 : decode cX12_readText 55 = .ok (.iload_n 1, 1) := by decide +kernel
theorem dX12_readText_56 : decode cX12_readText 56 = .ok (.ifCond .eq 5, 3) := by decide +kernel
theorem dX12_readText_59 : decode cX12_readText 59 = .ok (.iload_n 1, 1) := by decide +kernel
theorem dX12_readText_60 : decode cX12_readText 60 = .ok (.ireturn, 1) := by decide +kernel
theorem dX12_readText_61 : decode cX12_readText 61 = .ok (.goto (-18), 3) := by decide +kernel
theorem dX12_readText_64 : decode cX12_readText 64 = .ok (.iconst 0, 1) := by decide +kernel
theorem dX12_readText_65 : decode cX12_readText 65 = .ok (.ireturn, 1) := by decide +kernel
def Md_readText_43 : Nat → Nm → Option (Int32 × Nm)
  | 0, _ => none
  | f + 1, ν =>
    (if (gi ν 313 9) = 0 then
      some ((0 : Int32), ν)
    else
      (Md_clause ν).bind fun v2 =>
      (if v2.1 = 0 then
        (Md_readText_43 f) v2.2
      else
        some (v2.1, v2.2)))
set_option maxRecDepth 100000 in
set_option maxHeartbeats 4000000 in
theorem t_Md_readText_43 {g : GG} {d : Nat} (hd0 : 11 ≤ d) : ∀ (f : Nat), ∀ (ν : Nm) (r : (Int32 × Nm)), Md_readText_43 f ν = some r → Z g d (0, 0) mX12_readText 333 0 0 43 [(0, .ref 313)] [] (zem ν) (zF g (some (.int r.1), zem r.2)) := by
  intro f
  induction f with
  | zero =>
    intro ν r h
    cases h
  | succ f ih =>
    intro ν r h
    rw [Md_readText_43] at h
    refine z_aload_n dX12_readText_43 0 rfl ?_
    refine y_getI dX12_readText_44 zk_313 flRX12_134 ?_
    refine z_if_eq 64 dX12_readText_47 rfl (fun hc1 => ?_) (fun hc1 => ?_)
    · replace h := oT hc1 h
      refine z_iconst (M := mX12_readText) (v := 0) dX12_readText_64 rfl ?_
      cases h
      exact z_iret dX12_readText_65 rfl
    · replace h := oF hc1 h
      refine z_aload_n dX12_readText_50 0 rfl ?_
      obtain ⟨v2, he2, h⟩ := obind h
      refine y_Vi (M := mX12_readText) (Y := mX12_clause) (d2 := d - 1) (As := []) (st := []) dX12_readText_51 mlRX12_268 cv_X12_clause zk_313 (ct_Md_clause (dle (Nat.le_of_ble_eq_true rfl) hd0) he2) (dps (Nat.le_of_ble_eq_true rfl) hd0) rfl rfl (Nat.le_of_ble_eq_true rfl) ?_
      refine z_istore_n (M := mX12_readText) (lv2 := [(1, .int v2.1), (0, .ref 313)]) dX12_readText_54 (Nat.le_of_ble_eq_true rfl) rfl ?_
      refine z_iload_n dX12_readText_55 0 rfl ?_
      refine z_if_eq 61 dX12_readText_56 rfl (fun hc3 => ?_) (fun hc3 => ?_)
      · replace h := oT hc3 h
        refine z_goto 43 dX12_readText_61 rfl ?_
        refine z_lv (lv2 := [(0, .ref 313)]) [1] rfl ?_
        exact ih v2.2 _ h
      · replace h := oF hc3 h
        refine z_iload_n dX12_readText_59 0 rfl ?_
        cases h
        exact z_iret dX12_readText_60 rfl
def Md_readText_34 (ν : Nm) : Option (Int32 × Nm) :=
  (Md_nextToken (si ν 313 7 (0 : Int32))).bind fun v1 =>
  Md_readText_43 FU v1
set_option maxRecDepth 100000 in
set_option maxHeartbeats 4000000 in
theorem t_Md_readText_34 {g : GG} {d : Nat} (hd0 : 11 ≤ d) : ∀ (ν : Nm) (r : (Int32 × Nm)), Md_readText_34 ν = some r → Z g d (0, 0) mX12_readText 333 0 0 34 [(0, .ref 313)] [] (zem ν) (zF g (some (.int r.1), zem r.2)) := by
  intro ν r h
  unfold Md_readText_34 at h
  refine z_aload_n dX12_readText_34 0 rfl ?_
  refine z_iconst (M := mX12_readText) (v := 0) dX12_readText_35 rfl ?_
  refine y_putI dX12_readText_36 zk_313 flRX12_125 ⟨rfl, rfl⟩ ?_
  refine z_aload_n dX12_readText_39 0 rfl ?_
  obtain ⟨v1, he1, h⟩ := obind h
  refine y_Vv (M := mX12_readText) (Y := mX12_nextToken) (d2 := d - 1) (As := []) (st := []) dX12_readText_40 mlRX12_198 cv_X12_nextToken zk_313 (ct_Md_nextToken (dle (Nat.le_of_ble_eq_true rfl) hd0) he1) (dps (Nat.le_of_ble_eq_true rfl) hd0) rfl rfl (Nat.le_of_ble_eq_true rfl) ?_
  exact t_Md_readText_43 hd0 FU v1 _ h
def Md_readText (ν : Nm) : Option (Int32 × Nm) :=
  if inb (gi (si ν 313 12 ((681 : Int32) * (gi ν 314 2))) 313 12) 2724 then
  Md_readText_34 (si (si (si (si ν 313 12 ((681 : Int32) * (gi ν 314 2))) 316 (gi (si ν 313 12 ((681 : Int32) * (gi ν 314 2))) 313 12).toNatClampNeg (0 : Int32)) 313 13 (0 : Int32)) 313 19 (0 : Int32))
  else none
set_option maxRecDepth 100000 in
set_option maxHeartbeats 4000000 in
theorem t_Md_readText {g : GG} {d : Nat} (hd0 : 11 ≤ d) : ∀ (ν : Nm) (r : (Int32 × Nm)), Md_readText ν = some r → Z g d (0, 0) mX12_readText 333 0 0 0 [(0, .ref 313)] [] (zem ν) (zF g (some (.int r.1), zem r.2)) := by
  intro ν r h
  unfold Md_readText at h
  refine z_aload_n dX12_readText_0 0 rfl ?_
  refine z_sipush (M := mX12_readText) (v := 681) dX12_readText_1 rfl ?_
  refine z_aload_n dX12_readText_4 0 rfl ?_
  refine y_getR (M := mX12_readText) (r := 314) dX12_readText_5 zk_313 flRX12_7 fr_10_0.1 (fr_10_0.2 _) ?_
  refine z_iconst (M := mX12_readText) (v := 2) dX12_readText_8 rfl ?_
  refine y_iald (M := mX12_readText) (jj := 2) dX12_readText_9 zk_314 rfl rfl ?_
  refine z_imul dX12_readText_10 ?_
  refine y_putI dX12_readText_11 zk_313 flRX12_172 ⟨rfl, rfl⟩ ?_
  refine z_aload_n dX12_readText_14 0 rfl ?_
  refine y_getR (M := mX12_readText) (r := 316) dX12_readText_15 zk_313 flRX12_16 fr_10_2.1 (fr_10_2.2 _) ?_
  refine z_aload_n dX12_readText_18 0 rfl ?_
  refine y_getI dX12_readText_19 zk_313 flRX12_172 ?_
  refine z_iconst (M := mX12_readText) (v := 0) dX12_readText_22 rfl ?_
  obtain ⟨hi1, h⟩ := oif h
  refine y_iast (M := mX12_readText) (jj := (gi (si ν 313 12 ((681 : Int32) * (gi ν 314 2))) 313 12).toNatClampNeg) dX12_readText_23 zk_316 hi1 rfl ?_
  refine z_aload_n dX12_readText_24 0 rfl ?_
  refine z_iconst (M := mX12_readText) (v := 0) dX12_readText_25 rfl ?_
  refine y_putI dX12_readText_26 zk_313 flRX12_175 ⟨rfl, rfl⟩ ?_
  refine z_aload_n dX12_readText_29 0 rfl ?_
  refine z_iconst (M := mX12_readText) (v := 0) dX12_readText_30 rfl ?_
  refine y_putI dX12_readText_31 zk_313 flRX12_262 ⟨rfl, rfl⟩ ?_
  exact t_Md_readText_34 hd0  (si (si (si (si ν 313 12 ((681 : Int32) * (gi ν 314 2))) 316 (gi (si ν 313 12 ((681 : Int32) * (gi ν 314 2))) 313 12).toNatClampNeg (0 : Int32)) 313 13 (0 : Int32)) 313 19 (0 : Int32)) _ h
theorem ct_Md_readText {g : GG} {d : Nat} {ν : Nm} {r : (Int32 × Nm)} (hd0 : 11 ≤ d)  (h : Md_readText ν = some r) : Ct g d mX12_readText [.ref 313] (zem ν) (some (.int r.1), zem r.2) := y_entry in_X12_readText (Nat.le_of_ble_eq_true rfl) rfl (t_Md_readText hd0 ν r h)
-- FuseMinutesModel.text()I
theorem dX12_text_0 : decode cX12_text 0 = .ok (.aload_n 0, 1) := by decide +kernel
theorem dX12_text_1 : decode cX12_text 1 = .ok (.getfield 7, 3) := by decide +kernel
theorem dX12_text_4 : decode cX12_text 4 = .ok (.iconst 2, 1) := by decide +kernel
theorem dX12_text_5 : decode cX12_text 5 = .ok (.iaload, 1) := by decide +kernel
theorem dX12_text_6 : decode cX12_text 6 = .ok (.iconst 4, 1) := by decide +kernel
theorem dX12_text_7 : decode cX12_text 7 = .ok (.if_icmp .ne 5, 3) := by decide +kernel
theorem dX12_text_10 : decode cX12_text 10 = .ok (.iconst (-1), 1) := by decide +kernel
theorem dX12_text_11 : decode cX12_text 11 = .ok (.ireturn, 1) := by decide +kernel
theorem dX12_text_12 : decode cX12_text 12 = .ok (.aload_n 0, 1) := by decide +kernel
theorem dX12_text_13 : decode cX12_text 13 = .ok (.aload_n 0, 1) := by decide +kernel
theorem dX12_text_14 : decode cX12_text 14 = .ok (.invokevirtual 271, 3) := by decide +kernel
theorem dX12_text_17 : decode cX12_text 17 = .ok (.putfield 22, 3) := by decide +kernel
theorem dX12_text_20 : decode cX12_text 20 = .ok (.aload_n 0, 1) := by decide +kernel
theorem dX12_text_21 : decode cX12_text 21 = .ok (.aload_n 0, 1) := by decide +kernel
theorem dX12_text_22 : decode cX12_text 22 = .ok (.getfield 22, 3) := by decide +kernel
theorem dX12_text_25 : decode cX12_text 25 = .ok (.ifCond .ne 7, 3) := by decide +kernel
theorem dX12_text_28 : decode cX12_text 28 = .ok (.iconst (-1), 1) := by decide +kernel
theorem dX12_text_29 : decode cX12_text 29 = .ok (.goto 7, 3) := by decide +kernel
theorem dX12_text_32 : decode cX12_text 32 = .ok (.aload_n 0, 1) := by decide +kernel
theorem dX12_text_33 : decode cX12_text 33 = .ok (.getfield 131, 3) := by decide +kernel
theorem dX12_text_36 : decode cX12_text 36 = .ok (.putfield 26, 3) := by decide +kernel
theorem dX12_text_39 : decode cX12_text 39 = .ok (.aload_n 0, 1) := by decide +kernel
theorem dX12_text_40 : decode cX12_text 40 = .ok (.iconst 0, 1) := by decide +kernel
theorem dX12_text_41 : decode cX12_text 41 = .ok (.putfield 119, 3) := by decide +kernel
theorem dX12_text_44 : decode cX12_text 44 = .ok (.aload_n 0, 1) := by decide +kernel
theorem dX12_text_45 : decode cX12_text 45 = .ok (.getfield 22, 3) := by decide +kernel
theorem dX12_text_48 : decode cX12_text 48 = .ok (.ifCond .eq 5, 3) := by decide +kernel
theorem dX12_text_51 : decode cX12_text 51 = .ok (.iconst (-1), 1) := by decide +kernel
theorem dX12_text_52 : decode cX12_text 52 = .ok (.ireturn, 1) := by decide +kernel
theorem dX12_text_53 : decode cX12_text 53 = .ok (.aload_n 0, 1) := by decide +kernel
theorem dX12_text_54 : decode cX12_text 54 = .ok (.getfield 7, 3) := by decide +kernel
theorem dX12_text_57 : decode cX12_text 57 = .ok (.iconst 2, 1) := by decide +kernel
theorem dX12_text_58 : decode cX12_text 58 = .ok (.dup2, 1) := by decide +kernel
theorem dX12_text_59 : decode cX12_text 59 = .ok (.iaload, 1) := by decide +kernel
theorem dX12_text_60 : decode cX12_text 60 = .ok (.iconst 1, 1) := by decide +kernel
theorem dX12_text_61 : decode cX12_text 61 = .ok (.iadd, 1) := by decide +kernel
theorem dX12_text_62 : decode cX12_text 62 = .ok (.iastore, 1) := by decide +kernel
theorem dX12_text_63 : decode cX12_text 63 = .ok (.aload_n 0, 1) := by decide +kernel
theorem dX12_text_64 : decode cX12_text 64 = .ok (.getfield 7, 3) := by decide +kernel
theorem dX12_text_67 : decode cX12_text 67 = .ok (.iconst 2, 1) := by decide +kernel
theorem dX12_text_68 : decode cX12_text 68 = .ok (.iaload, 1) := by decide +kernel
theorem dX12_text_69 : decode cX12_text 69 = .ok (.iconst 1, 1) := by decide +kernel
theorem dX12_text_70 : decode cX12_text 70 = .ok (.isub, 1) := by decide +kernel
theorem dX12_text_71 : decode cX12_text 71 = .ok (.ireturn, 1) := by decide +kernel
def Md_text_36 (s0 : Int32) (ν : Nm) : Option (Int32 × Nm) :=
  (if (gi (si (si ν 313 6 s0) 313 4 (0 : Int32)) 313 5) = 0 then
    some (((gi (si (si (si ν 313 6 s0) 313 4 (0 : Int32)) 314 2 ((gi (si (si ν 313 6 s0) 313 4 (0 : Int32)) 314 2) + (1 : Int32))) 314 2) - (1 : Int32)), (si (si (si ν 313 6 s0) 313 4 (0 : Int32)) 314 2 ((gi (si (si ν 313 6 s0) 313 4 (0 : Int32)) 314 2) + (1 : Int32))))
  else
    some ((-1 : Int32), (si (si ν 313 6 s0) 313 4 (0 : Int32))))
set_option maxRecDepth 100000 in
set_option maxHeartbeats 4000000 in
theorem t_Md_text_36 {g : GG} {d : Nat} (hd0 : 12 ≤ d) : ∀ (s0 : Int32) (ν : Nm) (r : (Int32 × Nm)), Md_text_36 s0 ν = some r → Z g d (0, 0) mX12_text 333 0 0 36 [(0, .ref 313)] [.int s0, .ref 313] (zem ν) (zF g (some (.int r.1), zem r.2)) := by
  intro s0 ν r h
  unfold Md_text_36 at h
  refine y_putI dX12_text_36 zk_313 flRX12_26 ⟨rfl, rfl⟩ ?_
  refine z_aload_n dX12_text_39 0 rfl ?_
  refine z_iconst (M := mX12_text) (v := 0) dX12_text_40 rfl ?_
  refine y_putI dX12_text_41 zk_313 flRX12_119 ⟨rfl, rfl⟩ ?_
  refine z_aload_n dX12_text_44 0 rfl ?_
  refine y_getI dX12_text_45 zk_313 flRX12_22 ?_
  refine z_if_eq 53 dX12_text_48 rfl (fun hc1 => ?_) (fun hc1 => ?_)
  · replace h := oT hc1 h
    refine z_aload_n dX12_text_53 0 rfl ?_
    refine y_getR (M := mX12_text) (r := 314) dX12_text_54 zk_313 flRX12_7 fr_10_0.1 (fr_10_0.2 _) ?_
    refine z_iconst (M := mX12_text) (v := 2) dX12_text_57 rfl ?_
    refine z_dup2 dX12_text_58 rfl rfl ?_
    refine y_iald (M := mX12_text) (jj := 2) dX12_text_59 zk_314 rfl rfl ?_
    refine z_iconst (M := mX12_text) (v := 1) dX12_text_60 rfl ?_
    refine z_iadd dX12_text_61 ?_
    refine y_iast (M := mX12_text) (jj := 2) dX12_text_62 zk_314 rfl rfl ?_
    refine z_aload_n dX12_text_63 0 rfl ?_
    refine y_getR (M := mX12_text) (r := 314) dX12_text_64 zk_313 flRX12_7 fr_10_0.1 (fr_10_0.2 _) ?_
    refine z_iconst (M := mX12_text) (v := 2) dX12_text_67 rfl ?_
    refine y_iald (M := mX12_text) (jj := 2) dX12_text_68 zk_314 rfl rfl ?_
    refine z_iconst (M := mX12_text) (v := 1) dX12_text_69 rfl ?_
    refine z_isub dX12_text_70 ?_
    cases h
    exact z_iret dX12_text_71 rfl
  · replace h := oF hc1 h
    refine z_iconst (M := mX12_text) (v := -1) dX12_text_51 rfl ?_
    cases h
    exact z_iret dX12_text_52 rfl
def Md_text (ν : Nm) : Option (Int32 × Nm) :=
  (if ¬ (gi ν 314 2) = (4 : Int32) then
    (Md_readText ν).bind fun v2 =>
    (if ¬ (gi (si v2.2 313 5 v2.1) 313 5) = 0 then
      Md_text_36 (gi (si v2.2 313 5 v2.1) 313 8) (si v2.2 313 5 v2.1)
    else
      Md_text_36 (-1 : Int32) (si v2.2 313 5 v2.1))
  else
    some ((-1 : Int32), ν))
set_option maxRecDepth 100000 in
set_option maxHeartbeats 4000000 in
theorem t_Md_text {g : GG} {d : Nat} (hd0 : 12 ≤ d) : ∀ (ν : Nm) (r : (Int32 × Nm)), Md_text ν = some r → Z g d (0, 0) mX12_text 333 0 0 0 [(0, .ref 313)] [] (zem ν) (zF g (some (.int r.1), zem r.2)) := by
  intro ν r h
  unfold Md_text at h
  refine z_aload_n dX12_text_0 0 rfl ?_
  refine y_getR (M := mX12_text) (r := 314) dX12_text_1 zk_313 flRX12_7 fr_10_0.1 (fr_10_0.2 _) ?_
  refine z_iconst (M := mX12_text) (v := 2) dX12_text_4 rfl ?_
  refine y_iald (M := mX12_text) (jj := 2) dX12_text_5 zk_314 rfl rfl ?_
  refine z_iconst (M := mX12_text) (v := 4) dX12_text_6 rfl ?_
  refine z_icmp_ne 12 dX12_text_7 rfl (fun hc1 => ?_) (fun hc1 => ?_)
  · replace h := oT hc1 h
    refine z_aload_n dX12_text_12 0 rfl ?_
    refine z_aload_n dX12_text_13 0 rfl ?_
    obtain ⟨v2, he2, h⟩ := obind h
    refine y_Vi (M := mX12_text) (Y := mX12_readText) (d2 := d - 1) (As := []) (st := [.ref 313]) dX12_text_14 mlRX12_271 cv_X12_readText zk_313 (ct_Md_readText (dle (Nat.le_of_ble_eq_true rfl) hd0) he2) (dps (Nat.le_of_ble_eq_true rfl) hd0) rfl rfl (Nat.le_of_ble_eq_true rfl) ?_
    refine y_putI dX12_text_17 zk_313 flRX12_22 ⟨rfl, rfl⟩ ?_
    refine z_aload_n dX12_text_20 0 rfl ?_
    refine z_aload_n dX12_text_21 0 rfl ?_
    refine y_getI dX12_text_22 zk_313 flRX12_22 ?_
    refine z_if_ne 32 dX12_text_25 rfl (fun hc3 => ?_) (fun hc3 => ?_)
    · replace h := oT hc3 h
      refine z_aload_n dX12_text_32 0 rfl ?_
      refine y_getI dX12_text_33 zk_313 flRX12_131 ?_
      exact t_Md_text_36 hd0  (gi (si v2.2 313 5 v2.1) 313 8) (si v2.2 313 5 v2.1) _ h
    · replace h := oFn hc3 h
      refine z_iconst (M := mX12_text) (v := -1) dX12_text_28 rfl ?_
      refine z_goto 36 dX12_text_29 rfl ?_
      exact t_Md_text_36 hd0  (-1 : Int32) (si v2.2 313 5 v2.1) _ h
  · replace h := oFn hc1 h
    refine z_iconst (M := mX12_text) (v := -1) dX12_text_10 rfl ?_
    cases h
    exact z_iret dX12_text_11 rfl
theorem ct_Md_text {g : GG} {d : Nat} {ν : Nm} {r : (Int32 × Nm)} (hd0 : 12 ≤ d)  (h : Md_text ν = some r) : Ct g d mX12_text [.ref 313] (zem ν) (some (.int r.1), zem r.2) := y_entry in_X12_text (Nat.le_of_ble_eq_true rfl) rfl (t_Md_text hd0 ν r h)

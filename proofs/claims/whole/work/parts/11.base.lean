-- FuseMinutes$Crews.outcome(IIIII)I
theorem dX1_outcome_0 : decode cX1_outcome 0 = .ok (.iload 4, 2) := by decide +kernel
theorem dX1_outcome_2 : decode cX1_outcome 2 = .ok (.iload_n 0, 1) := by decide +kernel
theorem dX1_outcome_3 : decode cX1_outcome 3 = .ok (.iload_n 1, 1) := by decide +kernel
theorem dX1_outcome_4 : decode cX1_outcome 4 = .ok (.ior, 1) := by decide +kernel
theorem dX1_outcome_5 : decode cX1_outcome 5 = .ok (.iconst (-1), 1) := by decide +kernel
theorem dX1_outcome_6 : decode cX1_outcome 6 = .ok (.ixor, 1) := by decide +kernel
theorem dX1_outcome_7 : decode cX1_outcome 7 = .ok (.iand, 1) := by decide +kernel
theorem dX1_outcome_8 : decode cX1_outcome 8 = .ok (.istore 5, 2) := by decide +kernel
theorem dX1_outcome_10 : decode cX1_outcome 10 = .ok (.iload 5, 2) := by decide +kernel
theorem dX1_outcome_12 : decode cX1_outcome 12 = .ok (.ifCond .ne 5, 3) := by decide +kernel
theorem dX1_outcome_15 : decode cX1_outcome 15 = .ok (.iconst 0, 1) := by decide +kernel
theorem dX1_outcome_16 : decode cX1_outcome 16 = .ok (.ireturn, 1) := by decide +kernel
theorem dX1_outcome_17 : decode cX1_outcome 17 = .ok (.iconst (-1), 1) := by decide +kernel
theorem dX1_outcome_18 : decode cX1_outcome 18 = .ok (.istore 6, 2) := by decide +kernel
theorem dX1_outcome_20 : decode cX1_outcome 20 = .ok (.iconst 0, 1) := by decide +kernel
theorem dX1_outcome_21 : decode cX1_outcome 21 = .ok (.istore 7, 2) := by decide +kernel
theorem dX1_outcome_23 : decode cX1_outcome 23 = .ok (.iload 7, 2) := by decide +kernel
theorem dX1_outcome_25 : decode cX1_outcome 25 = .ok (.iconst 4, 1) := by decide +kernel
theorem dX1_outcome_26 : decode cX1_outcome 26 = .ok (.if_icmp .ge 40, 3) := by decide +kernel
theorem dX1_outcome_29 : decode cX1_outcome 29 = .ok (.iload 5, 2) := by decide +kernel
theorem dX1_outcome_31 : decode cX1_outcome 31 = .ok (.iload 7, 2) := by decide +kernel
theorem dX1_outcome_33 : decode cX1_outcome 33 = .ok (.ishr, 1) := by decide +kernel
theorem dX1_outcome_34 : decode cX1_outcome 34 = .ok (.iconst 1, 1) := by decide +kernel
theorem dX1_outcome_35 : decode cX1_outcome 35 = .ok (.iand, 1) := by decide +kernel
theorem dX1_outcome_36 : decode cX1_outcome 36 = .ok (.ifCond .eq 24, 3) := by decide +kernel
theorem dX1_outcome_39 : decode cX1_outcome 39 = .ok (.iload 6, 2) := by decide +kernel
theorem dX1_outcome_41 : decode cX1_outcome 41 = .ok (.iload_n 0, 1) := by decide +kernel
theorem dX1_outcome_42 : decode cX1_outcome 42 = .ok (.iconst 1, 1) := by decide +kernel
theorem dX1_outcome_43 : decode cX1_outcome 43 = .ok (.iload 7, 2) := by decide +kernel
theorem dX1_outcome_45 : decode cX1_outcome 45 = .ok (.ishl, 1) := by decide +kernel
theorem dX1_outcome_46 : decode cX1_outcome 46 = .ok (.ior, 1) := by decide +kernel
theorem dX1_outcome_47 : decode cX1_outcome 47 = .ok (.iload_n 1, 1) := by decide +kernel
theorem dX1_outcome_48 : decode cX1_outcome 48 = .ok (.iload_n 2, 1) := by decide +kernel
theorem dX1_outcome_49 : decode cX1_outcome 49 = .ok (.iload_n 3, 1) := by decide +kernel
theorem dX1_outcome_50 : decode cX1_outcome 50 = .ok (.iload 4, 2) := by decide +kernel
theorem dX1_outcome_52 : decode cX1_outcome 52 = .ok (.invokestatic 9, 3) := by decide +kernel
theorem dX1_outcome_55 : decode cX1_outcome 55 = .ok (.invokestatic 15, 3) := by decide +kernel
theorem dX1_outcome_58 : decode cX1_outcome 58 = .ok (.istore 6, 2) := by decide +kernel
theorem dX1_outcome_60 : decode cX1_outcome 60 = .ok (.iinc 7 1, 3) := by decide +kernel
theorem dX1_outcome_63 : decode cX1_outcome 63 = .ok (.goto (-40), 3) := by decide +kernel
theorem dX1_outcome_66 : decode cX1_outcome 66 = .ok (.iload 6, 2) := by decide +kernel
theorem dX1_outcome_68 : decode cX1_outcome 68 = .ok (.ireturn, 1) := by decide +kernel
def Cr_outcome_60 (rc : Nat → Int32 → Int32 → Int32 → Int32 → Int32 → Option Int32) (k23 : Int32 → Int32 → Int32 → Int32 → Int32 → Int32 → Int32 → Int32 → Option Int32) (x0 : Int32) (x1 : Int32) (x2 : Int32) (x3 : Int32) (x4 : Int32) (x5 : Int32) (x6 : Int32) (x7 : Int32) : Option Int32 :=
  k23 x0 x1 x2 x3 x4 x5 x6 (x7 + (1 : Int32))
set_option maxRecDepth 100000 in
set_option maxHeartbeats 4000000 in
theorem t_Cr_outcome_60 {g : GG} {d : Nat} {μ : Mm} {d2 : Nat} {rc : Nat → Int32 → Int32 → Int32 → Int32 → Int32 → Option Int32} (hb0 : 1 ≤ d2) (hr0 : ∀ (a0 : Int32) (a1 : Int32) (a2 : Int32) (a3 : Int32) (a4 : Int32) (r : Int32), rc 0 a0 a1 a2 a3 a4 = some r → Ct g d2 mX1_outcome [.int a0, .int a1, .int a2, .int a3, .int a4] μ (some (.int r), μ)) (hr1 : ∀ (a0 : Int32) (a1 : Int32) (a2 : Int32) (a3 : Int32) (a4 : Int32) (r : Int32), rc 1 a0 a1 a2 a3 a4 = some r → Ct g d2 mX1_behindTaking [.int a0, .int a1, .int a2, .int a3, .int a4] μ (some (.int r), μ)) (hd0 : d2 + 1 ≤ d) {k23 : Int32 → Int32 → Int32 → Int32 → Int32 → Int32 → Int32 → Int32 → Option Int32} (hk23 : ∀ (x0 : Int32) (x1 : Int32) (x2 : Int32) (x3 : Int32) (x4 : Int32) (x5 : Int32) (x6 : Int32) (x7 : Int32) (r : Int32), k23 x0 x1 x2 x3 x4 x5 x6 x7 = some r → Z g d (0, 0) mX1_outcome 333 0 0 23 [(0, .int x0), (1, .int x1), (2, .int x2), (3, .int x3), (4, .int x4), (5, .int x5), (6, .int x6), (7, .int x7)] [] μ (zF g (some (.int r), μ))) : ∀ (x0 : Int32) (x1 : Int32) (x2 : Int32) (x3 : Int32) (x4 : Int32) (x5 : Int32) (x6 : Int32) (x7 : Int32) (r : Int32), Cr_outcome_60 rc k23 x0 x1 x2 x3 x4 x5 x6 x7 = some r → Z g d (0, 0) mX1_outcome 333 0 0 60 [(0, .int x0), (1, .int x1), (2, .int x2), (3, .int x3), (4, .int x4), (5, .int x5), (6, .int x6), (7, .int x7)] [] μ (zF g (some (.int r), μ)) := by
  intro x0 x1 x2 x3 x4 x5 x6 x7 r h
  unfold Cr_outcome_60 at h
  refine z_iinc (M := mX1_outcome) (v := (x7 + (1 : Int32))) (lv2 := [(7, .int (x7 + (1 : Int32))), (0, .int x0), (1, .int x1), (2, .int x2), (3, .int x3), (4, .int x4), (5, .int x5), (6, .int x6)]) dX1_outcome_60 7 rfl rfl (Nat.le_of_ble_eq_true rfl) rfl ?_
  refine z_goto 23 dX1_outcome_63 rfl ?_
  refine z_lv (lv2 := [(0, .int x0), (1, .int x1), (2, .int x2), (3, .int x3), (4, .int x4), (5, .int x5), (6, .int x6), (7, .int (x7 + (1 : Int32)))]) [1, 2, 3, 4, 5, 6, 7, 0] rfl ?_
  exact hk23 x0 x1 x2 x3 x4 x5 x6 (x7 + (1 : Int32)) _ h
def Cr_outcome_23 (rc : Nat → Int32 → Int32 → Int32 → Int32 → Int32 → Option Int32) : Nat → Int32 → Int32 → Int32 → Int32 → Int32 → Int32 → Int32 → Int32 → Option Int32
  | 0, _, _, _, _, _, _, _, _ => none
  | f + 1, x0, x1, x2, x3, x4, x5, x6, x7 =>
    (if (4 : Int32) ≤ x7 then
      some x6
    else
      (if ((x5 >>> (x7 &&& 31)) &&& (1 : Int32)) = 0 then
        Cr_outcome_60 rc (Cr_outcome_23 rc f) x0 x1 x2 x3 x4 x5 x6 x7
      else
        (rc 1 (x0 ||| ((1 : Int32) <<< (x7 &&& 31))) x1 x2 x3 x4).bind fun v3 =>
        Cr_outcome_60 rc (Cr_outcome_23 rc f) x0 x1 x2 x3 x4 x5 (imax x6 v3) x7))
set_option maxRecDepth 100000 in
set_option maxHeartbeats 4000000 in
theorem t_Cr_outcome_23 {g : GG} {d : Nat} {μ : Mm} {d2 : Nat} {rc : Nat → Int32 → Int32 → Int32 → Int32 → Int32 → Option Int32} (hb0 : 1 ≤ d2) (hr0 : ∀ (a0 : Int32) (a1 : Int32) (a2 : Int32) (a3 : Int32) (a4 : Int32) (r : Int32), rc 0 a0 a1 a2 a3 a4 = some r → Ct g d2 mX1_outcome [.int a0, .int a1, .int a2, .int a3, .int a4] μ (some (.int r), μ)) (hr1 : ∀ (a0 : Int32) (a1 : Int32) (a2 : Int32) (a3 : Int32) (a4 : Int32) (r : Int32), rc 1 a0 a1 a2 a3 a4 = some r → Ct g d2 mX1_behindTaking [.int a0, .int a1, .int a2, .int a3, .int a4] μ (some (.int r), μ)) (hd0 : d2 + 1 ≤ d) : ∀ (f : Nat), ∀ (x0 : Int32) (x1 : Int32) (x2 : Int32) (x3 : Int32) (x4 : Int32) (x5 : Int32) (x6 : Int32) (x7 : Int32) (r : Int32), Cr_outcome_23 rc f x0 x1 x2 x3 x4 x5 x6 x7 = some r → Z g d (0, 0) mX1_outcome 333 0 0 23 [(0, .int x0), (1, .int x1), (2, .int x2), (3, .int x3), (4, .int x4), (5, .int x5), (6, .int x6), (7, .int x7)] [] μ (zF g (some (.int r), μ)) := by
  intro f
  induction f with
  | zero =>
    intro x0 x1 x2 x3 x4 x5 x6 x7 r h
    cases h
  | succ f ih =>
    intro x0 x1 x2 x3 x4 x5 x6 x7 r h
    rw [Cr_outcome_23] at h
    refine z_iload dX1_outcome_23 7 rfl ?_
    refine z_iconst (M := mX1_outcome) (v := 4) dX1_outcome_25 rfl ?_
    refine z_icmp_ge 66 dX1_outcome_26 rfl (fun hc1 => ?_) (fun hc1 => ?_)
    · replace h := oT hc1 h
      refine z_iload dX1_outcome_66 6 rfl ?_
      cases h
      exact z_iret dX1_outcome_68 rfl
    · replace h := oF hc1 h
      refine z_iload dX1_outcome_29 5 rfl ?_
      refine z_iload dX1_outcome_31 7 rfl ?_
      refine z_ishr dX1_outcome_33 ?_
      refine z_iconst (M := mX1_outcome) (v := 1) dX1_outcome_34 rfl ?_
      refine z_iand dX1_outcome_35 ?_
      refine z_if_eq 60 dX1_outcome_36 rfl (fun hc2 => ?_) (fun hc2 => ?_)
      · replace h := oT hc2 h
        exact t_Cr_outcome_60 hb0 hr0 hr1 hd0 ih x0 x1 x2 x3 x4 x5 x6 x7 _ h
      · replace h := oF hc2 h
        refine z_iload dX1_outcome_39 6 rfl ?_
        refine z_iload_n dX1_outcome_41 0 rfl ?_
        refine z_iconst (M := mX1_outcome) (v := 1) dX1_outcome_42 rfl ?_
        refine z_iload dX1_outcome_43 7 rfl ?_
        refine z_ishl dX1_outcome_45 ?_
        refine z_ior dX1_outcome_46 ?_
        refine z_iload_n dX1_outcome_47 1 rfl ?_
        refine z_iload_n dX1_outcome_48 2 rfl ?_
        refine z_iload_n dX1_outcome_49 3 rfl ?_
        refine z_iload dX1_outcome_50 4 rfl ?_
        obtain ⟨v3, he3, h⟩ := obind h
        refine y_Si (M := mX1_outcome) (Y := mX1_behindTaking) (d2 := d2) (As := [.int (x0 ||| ((1 : Int32) <<< (x7 &&& 31))), .int x1, .int x2, .int x3, .int x4]) (st := [.int x6]) dX1_outcome_52 mlRX1_9 cv_X1_behindTaking (hr1 (x0 ||| ((1 : Int32) <<< (x7 &&& 31))) x1 x2 x3 x4 _ he3) (by omega) rfl rfl (Nat.le_of_ble_eq_true rfl) ?_
        refine y_mmax dX1_outcome_55 mlRX1_15 mw_mmax (by omega) (Nat.le_of_ble_eq_true rfl) ?_
        refine z_istore (M := mX1_outcome) (lv2 := [(6, .int (imax x6 v3)), (0, .int x0), (1, .int x1), (2, .int x2), (3, .int x3), (4, .int x4), (5, .int x5), (7, .int x7)]) dX1_outcome_58 (Nat.le_of_ble_eq_true rfl) rfl ?_
        refine z_lv (lv2 := [(0, .int x0), (1, .int x1), (2, .int x2), (3, .int x3), (4, .int x4), (5, .int x5), (6, .int (imax x6 v3)), (7, .int x7)]) [1, 2, 3, 4, 5, 6, 0, 7] rfl ?_
        exact t_Cr_outcome_60 hb0 hr0 hr1 hd0 ih x0 x1 x2 x3 x4 x5 (imax x6 v3) x7 _ h
def Cr_outcome (rc : Nat → Int32 → Int32 → Int32 → Int32 → Int32 → Option Int32) (x0 : Int32) (x1 : Int32) (x2 : Int32) (x3 : Int32) (x4 : Int32) : Option Int32 :=
  (if ¬ (x4 &&& ((x0 ||| x1) ^^^ (-1 : Int32))) = 0 then
    Cr_outcome_23 rc FU x0 x1 x2 x3 x4 (x4 &&& ((x0 ||| x1) ^^^ (-1 : Int32))) (-1 : Int32) (0 : Int32)
  else
    some (0 : Int32))
set_option maxRecDepth 100000 in
set_option maxHeartbeats 4000000 in
theorem t_Cr_outcome {g : GG} {d : Nat} {μ : Mm} {d2 : Nat} {rc : Nat → Int32 → Int32 → Int32 → Int32 → Int32 → Option Int32} (hb0 : 1 ≤ d2) (hr0 : ∀ (a0 : Int32) (a1 : Int32) (a2 : Int32) (a3 : Int32) (a4 : Int32) (r : Int32), rc 0 a0 a1 a2 a3 a4 = some r → Ct g d2 mX1_outcome [.int a0, .int a1, .int a2, .int a3, .int a4] μ (some (.int r), μ)) (hr1 : ∀ (a0 : Int32) (a1 : Int32) (a2 : Int32) (a3 : Int32) (a4 : Int32) (r : Int32), rc 1 a0 a1 a2 a3 a4 = some r → Ct g d2 mX1_behindTaking [.int a0, .int a1, .int a2, .int a3, .int a4] μ (some (.int r), μ)) (hd0 : d2 + 1 ≤ d) : ∀ (x0 : Int32) (x1 : Int32) (x2 : Int32) (x3 : Int32) (x4 : Int32) (r : Int32), Cr_outcome rc x0 x1 x2 x3 x4 = some r → Z g d (0, 0) mX1_outcome 333 0 0 0 [(0, .int x0), (1, .int x1), (2, .int x2), (3, .int x3), (4, .int x4)] [] μ (zF g (some (.int r), μ)) := by
  intro x0 x1 x2 x3 x4 r h
  unfold Cr_outcome at h
  refine z_iload dX1_outcome_0 4 rfl ?_
  refine z_iload_n dX1_outcome_2 0 rfl ?_
  refine z_iload_n dX1_outcome_3 1 rfl ?_
  refine z_ior dX1_outcome_4 ?_
  refine z_iconst (M := mX1_outcome) (v := -1) dX1_outcome_5 rfl ?_
  refine z_ixor dX1_outcome_6 ?_
  refine z_iand dX1_outcome_7 ?_
  refine z_istore (M := mX1_outcome) (lv2 := [(5, .int (x4 &&& ((x0 ||| x1) ^^^ (-1 : Int32)))), (0, .int x0), (1, .int x1), (2, .int x2), (3, .int x3), (4, .int x4)]) dX1_outcome_8 (Nat.le_of_ble_eq_true rfl) rfl ?_
  refine z_iload dX1_outcome_10 0 rfl ?_
  refine z_if_ne 17 dX1_outcome_12 rfl (fun hc1 => ?_) (fun hc1 => ?_)
  · replace h := oT hc1 h
    refine z_iconst (M := mX1_outcome) (v := -1) dX1_outcome_17 rfl ?_
    refine z_istore (M := mX1_outcome) (lv2 := [(6, .int (-1 : Int32)), (5, .int (x4 &&& ((x0 ||| x1) ^^^ (-1 : Int32)))), (0, .int x0), (1, .int x1), (2, .int x2), (3, .int x3), (4, .int x4)]) dX1_outcome_18 (Nat.le_of_ble_eq_true rfl) rfl ?_
    refine z_iconst (M := mX1_outcome) (v := 0) dX1_outcome_20 rfl ?_
    refine z_istore (M := mX1_outcome) (lv2 := [(7, .int (0 : Int32)), (6, .int (-1 : Int32)), (5, .int (x4 &&& ((x0 ||| x1) ^^^ (-1 : Int32)))), (0, .int x0), (1, .int x1), (2, .int x2), (3, .int x3), (4, .int x4)]) dX1_outcome_21 (Nat.le_of_ble_eq_true rfl) rfl ?_
    refine z_lv (lv2 := [(0, .int x0), (1, .int x1), (2, .int x2), (3, .int x3), (4, .int x4), (5, .int (x4 &&& ((x0 ||| x1) ^^^ (-1 : Int32)))), (6, .int (-1 : Int32)), (7, .int (0 : Int32))]) [3, 4, 5, 6, 7, 2, 1, 0] rfl ?_
    exact t_Cr_outcome_23 hb0 hr0 hr1 hd0 FU x0 x1 x2 x3 x4 (x4 &&& ((x0 ||| x1) ^^^ (-1 : Int32))) (-1 : Int32) (0 : Int32) _ h
  · replace h := oFn hc1 h
    refine z_iconst (M := mX1_outcome) (v := 0) dX1_outcome_15 rfl ?_
    cases h
    exact z_iret dX1_outcome_16 rfl
theorem ct_Cr_outcome_o {g : GG} {d : Nat} {x0 : Int32} {x1 : Int32} {x2 : Int32} {x3 : Int32} {x4 : Int32} {μ : Mm} {r : Int32} {d2 : Nat} {rc : Nat → Int32 → Int32 → Int32 → Int32 → Int32 → Option Int32} (hb0 : 1 ≤ d2) (hr0 : ∀ (a0 : Int32) (a1 : Int32) (a2 : Int32) (a3 : Int32) (a4 : Int32) (r : Int32), rc 0 a0 a1 a2 a3 a4 = some r → Ct g d2 mX1_outcome [.int a0, .int a1, .int a2, .int a3, .int a4] μ (some (.int r), μ)) (hr1 : ∀ (a0 : Int32) (a1 : Int32) (a2 : Int32) (a3 : Int32) (a4 : Int32) (r : Int32), rc 1 a0 a1 a2 a3 a4 = some r → Ct g d2 mX1_behindTaking [.int a0, .int a1, .int a2, .int a3, .int a4] μ (some (.int r), μ)) (hd0 : d2 + 1 ≤ d)  (h : Cr_outcome rc x0 x1 x2 x3 x4 = some r) : Ct g d mX1_outcome [.int x0, .int x1, .int x2, .int x3, .int x4] μ (some (.int r), μ) := y_entry in_X1_outcome (Nat.le_of_ble_eq_true rfl) rfl (t_Cr_outcome hb0 hr0 hr1 hd0 x0 x1 x2 x3 x4 r h)
-- FuseMinutes$Crews.behindTaking(IIIII)I
theorem dX1_behindTaking_0 : decode cX1_behindTaking 0 = .ok (.iload_n 2, 1) := by decide +kernel
theorem dX1_behindTaking_1 : decode cX1_behindTaking 1 = .ok (.iload_n 0, 1) := by decide +kernel
theorem dX1_behindTaking_2 : decode cX1_behindTaking 2 = .ok (.ishr, 1) := by decide +kernel
theorem dX1_behindTaking_3 : decode cX1_behindTaking 3 = .ok (.iconst 1, 1) := by decide +kernel
theorem dX1_behindTaking_4 : decode cX1_behindTaking 4 = .ok (.iand, 1) := by decide +kernel
theorem dX1_behindTaking_5 : decode cX1_behindTaking 5 = .ok (.ifCond .eq 5, 3) := by decide +kernel
theorem dX1_behindTaking_8 : decode cX1_behindTaking 8 = .ok (.iconst 1, 1) := by decide +kernel
theorem dX1_behindTaking_9 : decode cX1_behindTaking 9 = .ok (.ireturn, 1) := by decide +kernel
theorem dX1_behindTaking_10 : decode cX1_behindTaking 10 = .ok (.iload_n 1, 1) := by decide +kernel
theorem dX1_behindTaking_11 : decode cX1_behindTaking 11 = .ok (.iload_n 0, 1) := by decide +kernel
theorem dX1_behindTaking_12 : decode cX1_behindTaking 12 = .ok (.iload_n 3, 1) := by decide +kernel
theorem dX1_behindTaking_13 : decode cX1_behindTaking 13 = .ok (.iload_n 2, 1) := by decide +kernel
theorem dX1_behindTaking_14 : decode cX1_behindTaking 14 = .ok (.iload 4, 2) := by decide +kernel
theorem dX1_behindTaking_16 : decode cX1_behindTaking 16 = .ok (.invokestatic 21, 3) := by decide +kernel
theorem dX1_behindTaking_19 : decode cX1_behindTaking 19 = .ok (.ineg, 1) := by decide +kernel
theorem dX1_behindTaking_20 : decode cX1_behindTaking 20 = .ok (.ireturn, 1) := by decide +kernel
def Cr_behindTaking (rc : Nat → Int32 → Int32 → Int32 → Int32 → Int32 → Option Int32) (x0 : Int32) (x1 : Int32) (x2 : Int32) (x3 : Int32) (x4 : Int32) : Option Int32 :=
  (if ((x2 >>> (x0 &&& 31)) &&& (1 : Int32)) = 0 then
    (rc 0 x1 x0 x3 x2 x4).bind fun v2 =>
    some (-v2)
  else
    some (1 : Int32))
set_option maxRecDepth 100000 in
set_option maxHeartbeats 4000000 in
theorem t_Cr_behindTaking {g : GG} {d : Nat} {μ : Mm} {d2 : Nat} {rc : Nat → Int32 → Int32 → Int32 → Int32 → Int32 → Option Int32} (hb0 : 1 ≤ d2) (hr0 : ∀ (a0 : Int32) (a1 : Int32) (a2 : Int32) (a3 : Int32) (a4 : Int32) (r : Int32), rc 0 a0 a1 a2 a3 a4 = some r → Ct g d2 mX1_outcome [.int a0, .int a1, .int a2, .int a3, .int a4] μ (some (.int r), μ)) (hr1 : ∀ (a0 : Int32) (a1 : Int32) (a2 : Int32) (a3 : Int32) (a4 : Int32) (r : Int32), rc 1 a0 a1 a2 a3 a4 = some r → Ct g d2 mX1_behindTaking [.int a0, .int a1, .int a2, .int a3, .int a4] μ (some (.int r), μ)) (hd0 : d2 + 1 ≤ d) : ∀ (x0 : Int32) (x1 : Int32) (x2 : Int32) (x3 : Int32) (x4 : Int32) (r : Int32), Cr_behindTaking rc x0 x1 x2 x3 x4 = some r → Z g d (0, 0) mX1_behindTaking 333 0 0 0 [(0, .int x0), (1, .int x1), (2, .int x2), (3, .int x3), (4, .int x4)] [] μ (zF g (some (.int r), μ)) := by
  intro x0 x1 x2 x3 x4 r h
  unfold Cr_behindTaking at h
  refine z_iload_n dX1_behindTaking_0 2 rfl ?_
  refine z_iload_n dX1_behindTaking_1 0 rfl ?_
  refine z_ishr dX1_behindTaking_2 ?_
  refine z_iconst (M := mX1_behindTaking) (v := 1) dX1_behindTaking_3 rfl ?_
  refine z_iand dX1_behindTaking_4 ?_
  refine z_if_eq 10 dX1_behindTaking_5 rfl (fun hc1 => ?_) (fun hc1 => ?_)
  · replace h := oT hc1 h
    refine z_iload_n dX1_behindTaking_10 1 rfl ?_
    refine z_iload_n dX1_behindTaking_11 0 rfl ?_
    refine z_iload_n dX1_behindTaking_12 3 rfl ?_
    refine z_iload_n dX1_behindTaking_13 2 rfl ?_
    refine z_iload dX1_behindTaking_14 4 rfl ?_
    obtain ⟨v2, he2, h⟩ := obind h
    refine y_Si (M := mX1_behindTaking) (Y := mX1_outcome) (d2 := d2) (As := [.int x1, .int x0, .int x3, .int x2, .int x4]) (st := []) dX1_behindTaking_16 mlRX1_21 cv_X1_outcome (hr0 x1 x0 x3 x2 x4 _ he2) (by omega) rfl rfl (Nat.le_of_ble_eq_true rfl) ?_
    refine z_ineg dX1_behindTaking_19 ?_
    cases h
    exact z_iret dX1_behindTaking_20 rfl
  · replace h := oF hc1 h
    refine z_iconst (M := mX1_behindTaking) (v := 1) dX1_behindTaking_8 rfl ?_
    cases h
    exact z_iret dX1_behindTaking_9 rfl
theorem ct_Cr_behindTaking_o {g : GG} {d : Nat} {x0 : Int32} {x1 : Int32} {x2 : Int32} {x3 : Int32} {x4 : Int32} {μ : Mm} {r : Int32} {d2 : Nat} {rc : Nat → Int32 → Int32 → Int32 → Int32 → Int32 → Option Int32} (hb0 : 1 ≤ d2) (hr0 : ∀ (a0 : Int32) (a1 : Int32) (a2 : Int32) (a3 : Int32) (a4 : Int32) (r : Int32), rc 0 a0 a1 a2 a3 a4 = some r → Ct g d2 mX1_outcome [.int a0, .int a1, .int a2, .int a3, .int a4] μ (some (.int r), μ)) (hr1 : ∀ (a0 : Int32) (a1 : Int32) (a2 : Int32) (a3 : Int32) (a4 : Int32) (r : Int32), rc 1 a0 a1 a2 a3 a4 = some r → Ct g d2 mX1_behindTaking [.int a0, .int a1, .int a2, .int a3, .int a4] μ (some (.int r), μ)) (hd0 : d2 + 1 ≤ d)  (h : Cr_behindTaking rc x0 x1 x2 x3 x4 = some r) : Ct g d mX1_behindTaking [.int x0, .int x1, .int x2, .int x3, .int x4] μ (some (.int r), μ) := y_entry in_X1_behindTaking (Nat.le_of_ble_eq_true rfl) rfl (t_Cr_behindTaking hb0 hr0 hr1 hd0 x0 x1 x2 x3 x4 r h)
def G_cr : Nat → Nat → Int32 → Int32 → Int32 → Int32 → Int32 → Option Int32
  | 0, _, _, _, _, _, _ => none
  | f + 1, t, a0, a1, a2, a3, a4 => if t = 0 then Cr_outcome (G_cr f) a0 a1 a2 a3 a4 else if t = 1 then Cr_behindTaking (G_cr f) a0 a1 a2 a3 a4 else none
theorem g_cr {g : GG} {μ : Mm} : ∀ (f d : Nat), 1 + f ≤ d → (∀ (a0 : Int32) (a1 : Int32) (a2 : Int32) (a3 : Int32) (a4 : Int32) (r : Int32), G_cr f 0 a0 a1 a2 a3 a4 = some r → Ct g d mX1_outcome [.int a0, .int a1, .int a2, .int a3, .int a4] μ (some (.int r), μ)) ∧ (∀ (a0 : Int32) (a1 : Int32) (a2 : Int32) (a3 : Int32) (a4 : Int32) (r : Int32), G_cr f 1 a0 a1 a2 a3 a4 = some r → Ct g d mX1_behindTaking [.int a0, .int a1, .int a2, .int a3, .int a4] μ (some (.int r), μ)) := by
  intro f
  induction f with
  | zero =>
    intro d _
    refine ⟨?_, ?_⟩
    · intro a0 a1 a2 a3 a4 r h
      cases h
    · intro a0 a1 a2 a3 a4 r h
      cases h
  | succ f ih =>
    intro d hd
    obtain ⟨i0, i1⟩ := ih (d - 1) (by omega)
    refine ⟨?_, ?_⟩
    · intro a0 a1 a2 a3 a4 r h
      exact ct_Cr_outcome_o (d2 := d - 1) (rc := G_cr f) (by omega) i0 i1 (by omega) (by simpa [G_cr] using h)
    · intro a0 a1 a2 a3 a4 r h
      exact ct_Cr_behindTaking_o (d2 := d - 1) (rc := G_cr f) (by omega) i0 i1 (by omega) (by simpa [G_cr] using h)
theorem ct_Cr_outcome {g : GG} {d : Nat} {a0 : Int32} {a1 : Int32} {a2 : Int32} {a3 : Int32} {a4 : Int32} {μ : Mm} {r : Int32} (hd0 : 201 ≤ d) (h : G_cr FR 0 a0 a1 a2 a3 a4 = some r) : Ct g d mX1_outcome [.int a0, .int a1, .int a2, .int a3, .int a4] μ (some (.int r), μ) := (g_cr FR d (by unfold FR; omega)).1 a0 a1 a2 a3 a4 r h
theorem ct_Cr_behindTaking {g : GG} {d : Nat} {a0 : Int32} {a1 : Int32} {a2 : Int32} {a3 : Int32} {a4 : Int32} {μ : Mm} {r : Int32} (hd0 : 201 ≤ d) (h : G_cr FR 1 a0 a1 a2 a3 a4 = some r) : Ct g d mX1_behindTaking [.int a0, .int a1, .int a2, .int a3, .int a4] μ (some (.int r), μ) := (g_cr FR d (by unfold FR; omega)).2 a0 a1 a2 a3 a4 r h
-- FuseMinutes$Crews.bestFirst(III)I
theorem dX1_bestFirst_0 : decode cX1_bestFirst 0 = .ok (.iconst 0, 1) := by decide +kernel
theorem dX1_bestFirst_1 : decode cX1_bestFirst 1 = .ok (.iconst 0, 1) := by decide +kernel
theorem dX1_bestFirst_2 : decode cX1_bestFirst 2 = .ok (.iload_n 0, 1) := by decide +kernel
theorem dX1_bestFirst_3 : decode cX1_bestFirst 3 = .ok (.iload_n 1, 1) := by decide +kernel
theorem dX1_bestFirst_4 : decode cX1_bestFirst 4 = .ok (.iload_n 2, 1) := by decide +kernel
theorem dX1_bestFirst_5 : decode cX1_bestFirst 5 = .ok (.invokestatic 21, 3) := by decide +kernel
theorem dX1_bestFirst_8 : decode cX1_bestFirst 8 = .ok (.istore_n 3, 1) := by decide +kernel
theorem dX1_bestFirst_9 : decode cX1_bestFirst 9 = .ok (.iconst 0, 1) := by decide +kernel
theorem dX1_bestFirst_10 : decode cX1_bestFirst 10 = .ok (.istore 4, 2) := by decide +kernel
theorem dX1_bestFirst_12 : decode cX1_bestFirst 12 = .ok (.iload 4, 2) := by decide +kernel
theorem dX1_bestFirst_14 : decode cX1_bestFirst 14 = .ok (.iconst 4, 1) := by decide +kernel
theorem dX1_bestFirst_15 : decode cX1_bestFirst 15 = .ok (.if_icmp .ge 48, 3) := by decide +kernel
theorem dX1_bestFirst_18 : decode cX1_bestFirst 18 = .ok (.iload_n 2, 1) := by decide +kernel
theorem dX1_bestFirst_19 : decode cX1_bestFirst 19 = .ok (.iload 4, 2) := by decide +kernel
theorem dX1_bestFirst_21 : decode cX1_bestFirst 21 = .ok (.ishr, 1) := by decide +kernel
theorem dX1_bestFirst_22 : decode cX1_bestFirst 22 = .ok (.iconst 1, 1) := by decide +kernel
theorem dX1_bestFirst_23 : decode cX1_bestFirst 23 = .ok (.iand, 1) := by decide +kernel
theorem dX1_bestFirst_24 : decode cX1_bestFirst 24 = .ok (.ifCond .eq 7, 3) := by decide +kernel
theorem dX1_bestFirst_27 : decode cX1_bestFirst 27 = .ok (.iconst 1, 1) := by decide +kernel
theorem dX1_bestFirst_28 : decode cX1_bestFirst 28 = .ok (.goto 4, 3) := by decide +kernel
theorem dX1_bestFirst_31 : decode cX1_bestFirst 31 = .ok (.iconst 0, 1) := by decide +kernel
theorem dX1_bestFirst_32 : decode cX1_bestFirst 32 = .ok (.istore 5, 2) := by decide +kernel
theorem dX1_bestFirst_34 : decode cX1_bestFirst 34 = .ok (.iload 5, 2) := by decide +kernel
theorem dX1_bestFirst_36 : decode cX1_bestFirst 36 = .ok (.ifCond .eq 21, 3) := by decide +kernel
theorem dX1_bestFirst_39 : decode cX1_bestFirst 39 = .ok (.iconst 1, 1) := by decide +kernel
theorem dX1_bestFirst_40 : decode cX1_bestFirst 40 = .ok (.iload 4, 2) := by decide +kernel
theorem dX1_bestFirst_42 : decode cX1_bestFirst 42 = .ok (.ishl, 1) := by decide +kernel
theorem dX1_bestFirst_43 : decode cX1_bestFirst 43 = .ok (.iconst 0, 1) := by decide +kernel
theorem dX1_bestFirst_44 : decode cX1_bestFirst 44 = .ok (.iload_n 0, 1) := by decide +kernel
theorem dX1_bestFirst_45 : decode cX1_bestFirst 45 = .ok (.iload_n 1, 1) := by decide +kernel
theorem dX1_bestFirst_46 : decode cX1_bestFirst 46 = .ok (.iload_n 2, 1) := by decide +kernel
theorem dX1_bestFirst_47 : decode cX1_bestFirst 47 = .ok (.invokestatic 9, 3) := by decide +kernel
theorem dX1_bestFirst_50 : decode cX1_bestFirst 50 = .ok (.iload_n 3, 1) := by decide +kernel
theorem dX1_bestFirst_51 : decode cX1_bestFirst 51 = .ok (.if_icmp .ne 6, 3) := by decide +kernel
theorem dX1_bestFirst_54 : decode cX1_bestFirst 54 = .ok (.iload 4, 2) := by decide +kernel
theorem dX1_bestFirst_56 : decode cX1_bestFirst 56 = .ok (.ireturn, 1) := by decide +kernel
theorem dX1_bestFirst_57 : decode cX1_bestFirst 57 = .ok (.iinc 4 1, 3) := by decide +kernel
theorem dX1_bestFirst_60 : decode cX1_bestFirst 60 = .ok (.goto (-48), 3) := by decide +kernel
theorem dX1_bestFirst_63 : decode cX1_bestFirst 63 = .ok (.iconst (-1), 1) := by decide +kernel
theorem dX1_bestFirst_64 : decode cX1_bestFirst 64 = .ok (.ireturn, 1) := by decide +kernel
def Cr_bestFirst_57 (k12 : Int32 → Int32 → Int32 → Int32 → Int32 → Option Int32) (x0 : Int32) (x1 : Int32) (x2 : Int32) (x3 : Int32) (x4 : Int32) : Option Int32 :=
  k12 x0 x1 x2 x3 (x4 + (1 : Int32))
set_option maxRecDepth 100000 in
set_option maxHeartbeats 4000000 in
theorem t_Cr_bestFirst_57 {g : GG} {d : Nat} {μ : Mm} (hd0 : 202 ≤ d) {k12 : Int32 → Int32 → Int32 → Int32 → Int32 → Option Int32} (hk12 : ∀ (x0 : Int32) (x1 : Int32) (x2 : Int32) (x3 : Int32) (x4 : Int32) (r : Int32), k12 x0 x1 x2 x3 x4 = some r → Z g d (0, 0) mX1_bestFirst 333 0 0 12 [(0, .int x0), (1, .int x1), (2, .int x2), (3, .int x3), (4, .int x4)] [] μ (zF g (some (.int r), μ))) : ∀ (x0 : Int32) (x1 : Int32) (x2 : Int32) (x3 : Int32) (x4 : Int32) (r : Int32), Cr_bestFirst_57 k12 x0 x1 x2 x3 x4 = some r → Z g d (0, 0) mX1_bestFirst 333 0 0 57 [(0, .int x0), (1, .int x1), (2, .int x2), (3, .int x3), (4, .int x4)] [] μ (zF g (some (.int r), μ)) := by
  intro x0 x1 x2 x3 x4 r h
  unfold Cr_bestFirst_57 at h
  refine z_iinc (M := mX1_bestFirst) (v := (x4 + (1 : Int32))) (lv2 := [(4, .int (x4 + (1 : Int32))), (0, .int x0), (1, .int x1), (2, .int x2), (3, .int x3)]) dX1_bestFirst_57 4 rfl rfl (Nat.le_of_ble_eq_true rfl) rfl ?_
  refine z_goto 12 dX1_bestFirst_60 rfl ?_
  refine z_lv (lv2 := [(0, .int x0), (1, .int x1), (2, .int x2), (3, .int x3), (4, .int (x4 + (1 : Int32)))]) [1, 2, 3, 4, 0] rfl ?_
  exact hk12 x0 x1 x2 x3 (x4 + (1 : Int32)) _ h
def Cr_bestFirst_32 (k12 : Int32 → Int32 → Int32 → Int32 → Int32 → Option Int32) (x0 : Int32) (x1 : Int32) (x2 : Int32) (x3 : Int32) (x4 : Int32) (s0 : Int32) : Option Int32 :=
  (if s0 = 0 then
    Cr_bestFirst_57 k12 x0 x1 x2 x3 x4
  else
    (G_cr FR 1 ((1 : Int32) <<< (x4 &&& 31)) (0 : Int32) x0 x1 x2).bind fun v2 =>
    (if ¬ v2 = x3 then
      Cr_bestFirst_57 k12 x0 x1 x2 x3 x4
    else
      some x4))
set_option maxRecDepth 100000 in
set_option maxHeartbeats 4000000 in
theorem t_Cr_bestFirst_32 {g : GG} {d : Nat} {μ : Mm} (hd0 : 202 ≤ d) {k12 : Int32 → Int32 → Int32 → Int32 → Int32 → Option Int32} (hk12 : ∀ (x0 : Int32) (x1 : Int32) (x2 : Int32) (x3 : Int32) (x4 : Int32) (r : Int32), k12 x0 x1 x2 x3 x4 = some r → Z g d (0, 0) mX1_bestFirst 333 0 0 12 [(0, .int x0), (1, .int x1), (2, .int x2), (3, .int x3), (4, .int x4)] [] μ (zF g (some (.int r), μ))) : ∀ (x0 : Int32) (x1 : Int32) (x2 : Int32) (x3 : Int32) (x4 : Int32) (s0 : Int32) (r : Int32), Cr_bestFirst_32 k12 x0 x1 x2 x3 x4 s0 = some r → Z g d (0, 0) mX1_bestFirst 333 0 0 32 [(0, .int x0), (1, .int x1), (2, .int x2), (3, .int x3), (4, .int x4)] [.int s0] μ (zF g (some (.int r), μ)) := by
  intro x0 x1 x2 x3 x4 s0 r h
  unfold Cr_bestFirst_32 at h
  refine z_istore (M := mX1_bestFirst) (lv2 := [(5, .int s0), (0, .int x0), (1, .int x1), (2, .int x2), (3, .int x3), (4, .int x4)]) dX1_bestFirst_32 (Nat.le_of_ble_eq_true rfl) rfl ?_
  refine z_iload dX1_bestFirst_34 0 rfl ?_
  refine z_if_eq 57 dX1_bestFirst_36 rfl (fun hc1 => ?_) (fun hc1 => ?_)
  · replace h := oT hc1 h
    refine z_lv (lv2 := [(0, .int x0), (1, .int x1), (2, .int x2), (3, .int x3), (4, .int x4)]) [1, 2, 3, 4, 5] rfl ?_
    exact t_Cr_bestFirst_57 hd0 hk12 x0 x1 x2 x3 x4 _ h
  · replace h := oF hc1 h
    refine z_iconst (M := mX1_bestFirst) (v := 1) dX1_bestFirst_39 rfl ?_
    refine z_iload dX1_bestFirst_40 5 rfl ?_
    refine z_ishl dX1_bestFirst_42 ?_
    refine z_iconst (M := mX1_bestFirst) (v := 0) dX1_bestFirst_43 rfl ?_
    refine z_iload_n dX1_bestFirst_44 1 rfl ?_
    refine z_iload_n dX1_bestFirst_45 2 rfl ?_
    refine z_iload_n dX1_bestFirst_46 3 rfl ?_
    obtain ⟨v2, he2, h⟩ := obind h
    refine y_Si (M := mX1_bestFirst) (Y := mX1_behindTaking) (d2 := d - 1) (As := [.int ((1 : Int32) <<< (x4 &&& 31)), .int (0 : Int32), .int x0, .int x1, .int x2]) (st := []) dX1_bestFirst_47 mlRX1_9 cv_X1_behindTaking (ct_Cr_behindTaking (dle (Nat.le_of_ble_eq_true rfl) hd0) he2) (dps (Nat.le_of_ble_eq_true rfl) hd0) rfl rfl (Nat.le_of_ble_eq_true rfl) ?_
    refine z_iload_n dX1_bestFirst_50 4 rfl ?_
    refine z_icmp_ne 57 dX1_bestFirst_51 rfl (fun hc3 => ?_) (fun hc3 => ?_)
    · replace h := oT hc3 h
      refine z_lv (lv2 := [(0, .int x0), (1, .int x1), (2, .int x2), (3, .int x3), (4, .int x4)]) [1, 2, 3, 4, 5] rfl ?_
      exact t_Cr_bestFirst_57 hd0 hk12 x0 x1 x2 x3 x4 _ h
    · replace h := oFn hc3 h
      refine z_iload dX1_bestFirst_54 5 rfl ?_
      cases h
      exact z_iret dX1_bestFirst_56 rfl
def Cr_bestFirst_12 : Nat → Int32 → Int32 → Int32 → Int32 → Int32 → Option Int32
  | 0, _, _, _, _, _ => none
  | f + 1, x0, x1, x2, x3, x4 =>
    (if (4 : Int32) ≤ x4 then
      some (-1 : Int32)
    else
      (if ((x2 >>> (x4 &&& 31)) &&& (1 : Int32)) = 0 then
        Cr_bestFirst_32 (Cr_bestFirst_12 f) x0 x1 x2 x3 x4 (0 : Int32)
      else
        Cr_bestFirst_32 (Cr_bestFirst_12 f) x0 x1 x2 x3 x4 (1 : Int32)))
set_option maxRecDepth 100000 in
set_option maxHeartbeats 4000000 in
theorem t_Cr_bestFirst_12 {g : GG} {d : Nat} {μ : Mm} (hd0 : 202 ≤ d) : ∀ (f : Nat), ∀ (x0 : Int32) (x1 : Int32) (x2 : Int32) (x3 : Int32) (x4 : Int32) (r : Int32), Cr_bestFirst_12 f x0 x1 x2 x3 x4 = some r → Z g d (0, 0) mX1_bestFirst 333 0 0 12 [(0, .int x0), (1, .int x1), (2, .int x2), (3, .int x3), (4, .int x4)] [] μ (zF g (some (.int r), μ)) := by
  intro f
  induction f with
  | zero =>
    intro x0 x1 x2 x3 x4 r h
    cases h
  | succ f ih =>
    intro x0 x1 x2 x3 x4 r h
    rw [Cr_bestFirst_12] at h
    refine z_iload dX1_bestFirst_12 4 rfl ?_
    refine z_iconst (M := mX1_bestFirst) (v := 4) dX1_bestFirst_14 rfl ?_
    refine z_icmp_ge 63 dX1_bestFirst_15 rfl (fun hc1 => ?_) (fun hc1 => ?_)
    · replace h := oT hc1 h
      refine z_iconst (M := mX1_bestFirst) (v := -1) dX1_bestFirst_63 rfl ?_
      cases h
      exact z_iret dX1_bestFirst_64 rfl
    · replace h := oF hc1 h
      refine z_iload_n dX1_bestFirst_18 2 rfl ?_
      refine z_iload dX1_bestFirst_19 4 rfl ?_
      refine z_ishr dX1_bestFirst_21 ?_
      refine z_iconst (M := mX1_bestFirst) (v := 1) dX1_bestFirst_22 rfl ?_
      refine z_iand dX1_bestFirst_23 ?_
      refine z_if_eq 31 dX1_bestFirst_24 rfl (fun hc2 => ?_) (fun hc2 => ?_)
      · replace h := oT hc2 h
        refine z_iconst (M := mX1_bestFirst) (v := 0) dX1_bestFirst_31 rfl ?_
        exact t_Cr_bestFirst_32 hd0 ih x0 x1 x2 x3 x4 (0 : Int32) _ h
      · replace h := oF hc2 h
        refine z_iconst (M := mX1_bestFirst) (v := 1) dX1_bestFirst_27 rfl ?_
        refine z_goto 32 dX1_bestFirst_28 rfl ?_
        exact t_Cr_bestFirst_32 hd0 ih x0 x1 x2 x3 x4 (1 : Int32) _ h
def Cr_bestFirst (x0 : Int32) (x1 : Int32) (x2 : Int32) : Option Int32 :=
  (G_cr FR 0 (0 : Int32) (0 : Int32) x0 x1 x2).bind fun v1 =>
  Cr_bestFirst_12 FU x0 x1 x2 v1 (0 : Int32)
set_option maxRecDepth 100000 in
set_option maxHeartbeats 4000000 in
theorem t_Cr_bestFirst {g : GG} {d : Nat} {μ : Mm} (hd0 : 202 ≤ d) : ∀ (x0 : Int32) (x1 : Int32) (x2 : Int32) (r : Int32), Cr_bestFirst x0 x1 x2 = some r → Z g d (0, 0) mX1_bestFirst 333 0 0 0 [(0, .int x0), (1, .int x1), (2, .int x2)] [] μ (zF g (some (.int r), μ)) := by
  intro x0 x1 x2 r h
  unfold Cr_bestFirst at h
  refine z_iconst (M := mX1_bestFirst) (v := 0) dX1_bestFirst_0 rfl ?_
  refine z_iconst (M := mX1_bestFirst) (v := 0) dX1_bestFirst_1 rfl ?_
  refine z_iload_n dX1_bestFirst_2 0 rfl ?_
  refine z_iload_n dX1_bestFirst_3 1 rfl ?_
  refine z_iload_n dX1_bestFirst_4 2 rfl ?_
  obtain ⟨v1, he1, h⟩ := obind h
  refine y_Si (M := mX1_bestFirst) (Y := mX1_outcome) (d2 := d - 1) (As := [.int (0 : Int32), .int (0 : Int32), .int x0, .int x1, .int x2]) (st := []) dX1_bestFirst_5 mlRX1_21 cv_X1_outcome (ct_Cr_outcome (dle (Nat.le_of_ble_eq_true rfl) hd0) he1) (dps (Nat.le_of_ble_eq_true rfl) hd0) rfl rfl (Nat.le_of_ble_eq_true rfl) ?_
  refine z_istore_n (M := mX1_bestFirst) (lv2 := [(3, .int v1), (0, .int x0), (1, .int x1), (2, .int x2)]) dX1_bestFirst_8 (Nat.le_of_ble_eq_true rfl) rfl ?_
  refine z_iconst (M := mX1_bestFirst) (v := 0) dX1_bestFirst_9 rfl ?_
  refine z_istore (M := mX1_bestFirst) (lv2 := [(4, .int (0 : Int32)), (3, .int v1), (0, .int x0), (1, .int x1), (2, .int x2)]) dX1_bestFirst_10 (Nat.le_of_ble_eq_true rfl) rfl ?_
  refine z_lv (lv2 := [(0, .int x0), (1, .int x1), (2, .int x2), (3, .int v1), (4, .int (0 : Int32))]) [2, 3, 4, 1, 0] rfl ?_
  exact t_Cr_bestFirst_12 hd0 FU x0 x1 x2 v1 (0 : Int32) _ h
theorem ct_Cr_bestFirst {g : GG} {d : Nat} {x0 : Int32} {x1 : Int32} {x2 : Int32} {μ : Mm} {r : Int32} (hd0 : 202 ≤ d)  (h : Cr_bestFirst x0 x1 x2 = some r) : Ct g d mX1_bestFirst [.int x0, .int x1, .int x2] μ (some (.int r), μ) := y_entry in_X1_bestFirst (Nat.le_of_ble_eq_true rfl) rfl (t_Cr_bestFirst hd0 x0 x1 x2 r h)
-- FuseMinutes$Pit.copy(LFuseMinutes$Pit;)V
theorem dX2_copy_0 : decode cX2_copy 0 = .ok (.aload_n 0, 1) := by decide +kernel
theorem dX2_copy_1 : decode cX2_copy 1 = .ok (.aload_n 1, 1) := by decide +kernel
theorem dX2_copy_2 : decode cX2_copy 2 = .ok (.getfield 25, 3) := by decide +kernel
theorem dX2_copy_5 : decode cX2_copy 5 = .ok (.putfield 25, 3) := by decide +kernel
theorem dX2_copy_8 : decode cX2_copy 8 = .ok (.aload_n 0, 1) := by decide +kernel
theorem dX2_copy_9 : decode cX2_copy 9 = .ok (.aload_n 1, 1) := by decide +kernel
theorem dX2_copy_10 : decode cX2_copy 10 = .ok (.getfield 28, 3) := by decide +kernel
theorem dX2_copy_13 : decode cX2_copy 13 = .ok (.putfield 28, 3) := by decide +kernel
theorem dX2_copy_16 : decode cX2_copy 16 = .ok (.aload_n 0, 1) := by decide +kernel
theorem dX2_copy_17 : decode cX2_copy 17 = .ok (.aload_n 1, 1) := by decide +kernel
theorem dX2_copy_18 : decode cX2_copy 18 = .ok (.getfield 9, 3) := by decide +kernel
theorem dX2_copy_21 : decode cX2_copy 21 = .ok (.putfield 9, 3) := by decide +kernel
theorem dX2_copy_24 : decode cX2_copy 24 = .ok (.aload_n 0, 1) := by decide +kernel
theorem dX2_copy_25 : decode cX2_copy 25 = .ok (.aload_n 1, 1) := by decide +kernel
theorem dX2_copy_26 : decode cX2_copy 26 = .ok (.getfield 31, 3) := by decide +kernel
theorem dX2_copy_29 : decode cX2_copy 29 = .ok (.putfield 31, 3) := by decide +kernel
theorem dX2_copy_32 : decode cX2_copy 32 = .ok (.aload_n 0, 1) := by decide +kernel
theorem dX2_copy_33 : decode cX2_copy 33 = .ok (.aload_n 1, 1) := by decide +kernel
theorem dX2_copy_34 : decode cX2_copy 34 = .ok (.getfield 34, 3) := by decide +kernel
theorem dX2_copy_37 : decode cX2_copy 37 = .ok (.putfield 34, 3) := by decide +kernel
theorem dX2_copy_40 : decode cX2_copy 40 = .ok (.aload_n 1, 1) := by decide +kernel
theorem dX2_copy_41 : decode cX2_copy 41 = .ok (.getfield 15, 3) := by decide +kernel
theorem dX2_copy_44 : decode cX2_copy 44 = .ok (.iconst 0, 1) := by decide +kernel
theorem dX2_copy_45 : decode cX2_copy 45 = .ok (.aload_n 0, 1) := by decide +kernel
theorem dX2_copy_46 : decode cX2_copy 46 = .ok (.getfield 15, 3) := by decide +kernel
theorem dX2_copy_49 : decode cX2_copy 49 = .ok (.iconst 0, 1) := by decide +kernel
theorem dX2_copy_50 : decode cX2_copy 50 = .ok (.iconst 4, 1) := by decide +kernel
theorem dX2_copy_51 : decode cX2_copy 51 = .ok (.invokestatic 37, 3) := by decide +kernel
theorem dX2_copy_54 : decode cX2_copy 54 = .ok (.aload_n 1, 1) := by decide +kernel
theorem dX2_copy_55 : decode cX2_copy 55 = .ok (.getfield 19, 3) := by decide +kernel
theorem dX2_copy_58 : decode cX2_copy 58 = .ok (.iconst 0, 1) := by decide +kernel
theorem dX2_copy_59 : decode cX2_copy 59 = .ok (.aload_n 0, 1) := by decide +kernel
theorem dX2_copy_60 : decode cX2_copy 60 = .ok (.getfield 19, 3) := by decide +kernel
theorem dX2_copy_63 : decode cX2_copy 63 = .ok (.iconst 0, 1) := by decide +kernel
theorem dX2_copy_64 : decode cX2_copy 64 = .ok (.iconst 4, 1) := by decide +kernel
theorem dX2_copy_65 : decode cX2_copy 65 = .ok (.invokestatic 37, 3) := by decide +kernel
theorem dX2_copy_68 : decode cX2_copy 68 = .ok (.aload_n 1, 1) := by decide +kernel
theorem dX2_copy_69 : decode cX2_copy 69 = .ok (.getfield 22, 3) := by decide +kernel
theorem dX2_copy_72 : decode cX2_copy 72 = .ok (.iconst 0, 1) := by decide +kernel
theorem dX2_copy_73 : decode cX2_copy 73 = .ok (.aload_n 0, 1) := by decide +kernel
theorem dX2_copy_74 : decode cX2_copy 74 = .ok (.getfield 22, 3) := by decide +kernel
theorem dX2_copy_77 : decode cX2_copy 77 = .ok (.iconst 0, 1) := by decide +kernel
theorem dX2_copy_78 : decode cX2_copy 78 = .ok (.bipush 30, 2) := by decide +kernel
theorem dX2_copy_80 : decode cX2_copy 80 = .ok (.invokestatic 37, 3) := by decide +kernel
theorem dX2_copy_83 : decode cX2_copy 83 = .ok (.return_, 1) := by decide +kernel
def Pt_copy_32 (x0 : Nat) (x1 : Nat) (ν : Nm) : Option Nm :=
  some (scp (scp (scp (si ν x0 7 (gi ν x1 7)) (x1 + 1) 0 (x0 + 1) 0 4) (x1 + 2) 0 (x0 + 2) 0 4) (x1 + 3) 0 (x0 + 3) 0 30)
set_option maxRecDepth 100000 in
set_option maxHeartbeats 4000000 in
theorem t_Pt_copy_32 {g : GG} {d : Nat} (hd0 : 1 ≤ d) : ∀ (x0 : Nat) (x1 : Nat) (ν : Nm) (r : Nm), zk 333 x0 (1, 0) → zk 333 x1 (1, 0) → Pt_copy_32 x0 x1 ν = some r → Z g d (0, 0) mX2_copy 333 0 0 32 [(0, .ref x0), (1, .ref x1)] [] (zem ν) (zF g (none, zem r)) := by
  intro x0 x1 ν r hq0 hq1 h
  unfold Pt_copy_32 at h
  refine z_aload_n dX2_copy_32 0 rfl ?_
  refine z_aload_n dX2_copy_33 1 rfl ?_
  refine y_getI dX2_copy_34 hq1 flRX2_34 ?_
  refine y_putI dX2_copy_37 hq0 flRX2_34 ⟨rfl, rfl⟩ ?_
  refine z_aload_n dX2_copy_40 1 rfl ?_
  refine y_getR (M := mX2_copy) (r := (x1 + 1)) dX2_copy_41 hq1 flRX2_15 fr_1_4.1 (fr_1_4.2 _) ?_
  refine z_iconst (M := mX2_copy) (v := 0) dX2_copy_44 rfl ?_
  refine z_aload_n dX2_copy_45 0 rfl ?_
  refine y_getR (M := mX2_copy) (r := (x0 + 1)) dX2_copy_46 hq0 flRX2_15 fr_1_4.1 (fr_1_4.2 _) ?_
  refine z_iconst (M := mX2_copy) (v := 0) dX2_copy_49 rfl ?_
  refine z_iconst (M := mX2_copy) (v := 4) dX2_copy_50 rfl ?_
  refine y_copy dX2_copy_51 (cpw mlRX2_37) (zko_1_4 hq1) (zko_1_4 hq0) (by decide) (Nat.le_trans (Nat.le_of_ble_eq_true rfl) hd0) (Nat.le_of_ble_eq_true rfl) rfl rfl rfl ?_
  refine z_aload_n dX2_copy_54 1 rfl ?_
  refine y_getR (M := mX2_copy) (r := (x1 + 2)) dX2_copy_55 hq1 flRX2_19 fr_1_5.1 (fr_1_5.2 _) ?_
  refine z_iconst (M := mX2_copy) (v := 0) dX2_copy_58 rfl ?_
  refine z_aload_n dX2_copy_59 0 rfl ?_
  refine y_getR (M := mX2_copy) (r := (x0 + 2)) dX2_copy_60 hq0 flRX2_19 fr_1_5.1 (fr_1_5.2 _) ?_
  refine z_iconst (M := mX2_copy) (v := 0) dX2_copy_63 rfl ?_
  refine z_iconst (M := mX2_copy) (v := 4) dX2_copy_64 rfl ?_
  refine y_copy dX2_copy_65 (cpw mlRX2_37) (zko_1_5 hq1) (zko_1_5 hq0) (by decide) (Nat.le_trans (Nat.le_of_ble_eq_true rfl) hd0) (Nat.le_of_ble_eq_true rfl) rfl rfl rfl ?_
  refine z_aload_n dX2_copy_68 1 rfl ?_
  refine y_getR (M := mX2_copy) (r := (x1 + 3)) dX2_copy_69 hq1 flRX2_22 fr_1_6.1 (fr_1_6.2 _) ?_
  refine z_iconst (M := mX2_copy) (v := 0) dX2_copy_72 rfl ?_
  refine z_aload_n dX2_copy_73 0 rfl ?_
  refine y_getR (M := mX2_copy) (r := (x0 + 3)) dX2_copy_74 hq0 flRX2_22 fr_1_6.1 (fr_1_6.2 _) ?_
  refine z_iconst (M := mX2_copy) (v := 0) dX2_copy_77 rfl ?_
  refine z_bipush (M := mX2_copy) (v := 30) dX2_copy_78 rfl ?_
  refine y_copy dX2_copy_80 (cpw mlRX2_37) (zko_1_6 hq1) (zko_1_6 hq0) (by decide) (Nat.le_trans (Nat.le_of_ble_eq_true rfl) hd0) (Nat.le_of_ble_eq_true rfl) rfl rfl rfl ?_
  cases h
  exact z_vret dX2_copy_83 rfl
def Pt_copy (x0 : Nat) (x1 : Nat) (ν : Nm) : Option Nm :=
  Pt_copy_32 x0 x1 (si (si (si (si ν x0 0 (gi ν x1 0)) x0 1 (gi (si ν x0 0 (gi ν x1 0)) x1 1)) x0 2 (gi (si (si ν x0 0 (gi ν x1 0)) x0 1 (gi (si ν x0 0 (gi ν x1 0)) x1 1)) x1 2)) x0 3 (gi (si (si (si ν x0 0 (gi ν x1 0)) x0 1 (gi (si ν x0 0 (gi ν x1 0)) x1 1)) x0 2 (gi (si (si ν x0 0 (gi ν x1 0)) x0 1 (gi (si ν x0 0 (gi ν x1 0)) x1 1)) x1 2)) x1 3))
set_option maxRecDepth 100000 in
set_option maxHeartbeats 4000000 in
theorem t_Pt_copy {g : GG} {d : Nat} (hd0 : 1 ≤ d) : ∀ (x0 : Nat) (x1 : Nat) (ν : Nm) (r : Nm), zk 333 x0 (1, 0) → zk 333 x1 (1, 0) → Pt_copy x0 x1 ν = some r → Z g d (0, 0) mX2_copy 333 0 0 0 [(0, .ref x0), (1, .ref x1)] [] (zem ν) (zF g (none, zem r)) := by
  intro x0 x1 ν r hq0 hq1 h
  unfold Pt_copy at h
  refine z_aload_n dX2_copy_0 0 rfl ?_
  refine z_aload_n dX2_copy_1 1 rfl ?_
  refine y_getI dX2_copy_2 hq1 flRX2_25 ?_
  refine y_putI dX2_copy_5 hq0 flRX2_25 ⟨rfl, rfl⟩ ?_
  refine z_aload_n dX2_copy_8 0 rfl ?_
  refine z_aload_n dX2_copy_9 1 rfl ?_
  refine y_getI dX2_copy_10 hq1 flRX2_28 ?_
  refine y_putI dX2_copy_13 hq0 flRX2_28 ⟨rfl, rfl⟩ ?_
  refine z_aload_n dX2_copy_16 0 rfl ?_
  refine z_aload_n dX2_copy_17 1 rfl ?_
  refine y_getI dX2_copy_18 hq1 flRX2_9 ?_
  refine y_putI dX2_copy_21 hq0 flRX2_9 ⟨rfl, rfl⟩ ?_
  refine z_aload_n dX2_copy_24 0 rfl ?_
  refine z_aload_n dX2_copy_25 1 rfl ?_
  refine y_getI dX2_copy_26 hq1 flRX2_31 ?_
  refine y_putI dX2_copy_29 hq0 flRX2_31 ⟨rfl, rfl⟩ ?_
  exact t_Pt_copy_32 hd0  x0 x1 (si (si (si (si ν x0 0 (gi ν x1 0)) x0 1 (gi (si ν x0 0 (gi ν x1 0)) x1 1)) x0 2 (gi (si (si ν x0 0 (gi ν x1 0)) x0 1 (gi (si ν x0 0 (gi ν x1 0)) x1 1)) x1 2)) x0 3 (gi (si (si (si ν x0 0 (gi ν x1 0)) x0 1 (gi (si ν x0 0 (gi ν x1 0)) x1 1)) x0 2 (gi (si (si ν x0 0 (gi ν x1 0)) x0 1 (gi (si ν x0 0 (gi ν x1 0)) x1 1)) x1 2)) x1 3)) _ hq0 hq1 h
theorem ct_Pt_copy {g : GG} {d : Nat} {x0 : Nat} {x1 : Nat} {ν : Nm} {r : Nm} (hd0 : 1 ≤ d) (hq0 : zk 333 x0 (1, 0)) (hq1 : zk 333 x1 (1, 0)) (h : Pt_copy x0 x1 ν = some r) : Ct g d mX2_copy [.ref x0, .ref x1] (zem ν) (none, zem r) := y_entry in_X2_copy (Nat.le_of_ble_eq_true rfl) rfl (t_Pt_copy hd0 x0 x1 ν r hq0 hq1 h)
-- FuseMinutes$Pit.has(I)Z
theorem dX2_has_0 : decode cX2_has 0 = .ok (.iload_n 1, 1) := by decide +kernel
theorem dX2_has_1 : decode cX2_has 1 = .ok (.ifCond .lt 20, 3) := by decide +kernel
theorem dX2_has_4 : decode cX2_has 4 = .ok (.iload_n 1, 1) := by decide +kernel
theorem dX2_has_5 : decode cX2_has 5 = .ok (.aload_n 0, 1) := by decide +kernel
theorem dX2_has_6 : decode cX2_has 6 = .ok (.getfield 25, 3) := by decide +kernel
theorem dX2_has_9 : decode cX2_has 9 = .ok (.if_icmp .ge 12, 3) := by decide +kernel
theorem dX2_has_12 : decode cX2_has 12 = .ok (.iload_n 1, 1) := by decide +kernel
theorem dX2_has_13 : decode cX2_has 13 = .ok (.iconst 4, 1) := by decide +kernel
theorem dX2_has_14 : decode cX2_has 14 = .ok (.if_icmp .ge 7, 3) := by decide +kernel
theorem dX2_has_17 : decode cX2_has 17 = .ok (.iconst 1, 1) := by decide +kernel
theorem dX2_has_18 : decode cX2_has 18 = .ok (.goto 4, 3) := by decide +kernel
theorem dX2_has_21 : decode cX2_has 21 = .ok (.iconst 0, 1) := by decide +kernel
theorem dX2_has_22 : decode cX2_has 22 = .ok (.ireturn, 1) := by decide +kernel
def Pt_has (ν : Nm) (x0 : Nat) (x1 : Int32) : Option Bool :=
  (if x1 < 0 then
    some false
  else
    (if (gi ν x0 0) ≤ x1 then
      some false
    else
      (if (4 : Int32) ≤ x1 then
        some false
      else
        some true)))
set_option maxRecDepth 100000 in
set_option maxHeartbeats 4000000 in
theorem t_Pt_has {g : GG} {d : Nat} {ν : Nm} (hd0 : 1 ≤ d) : ∀ (x0 : Nat) (x1 : Int32) (r : Bool), zk 333 x0 (1, 0) → Pt_has ν x0 x1 = some r → Z g d (0, 0) mX2_has 333 0 0 0 [(0, .ref x0), (1, .int x1)] [] (zem ν) (zF g (some (.int (b2i r)), zem ν)) := by
  intro x0 x1 r hq0 h
  unfold Pt_has at h
  refine z_iload_n dX2_has_0 1 rfl ?_
  refine z_if_lt 21 dX2_has_1 rfl (fun hc1 => ?_) (fun hc1 => ?_)
  · replace h := oT hc1 h
    refine z_iconst (M := mX2_has) (v := 0) dX2_has_21 rfl ?_
    cases h
    exact z_zret dX2_has_22 rfl rfl
  · replace h := oF hc1 h
    refine z_iload_n dX2_has_4 1 rfl ?_
    refine z_aload_n dX2_has_5 0 rfl ?_
    refine y_getI dX2_has_6 hq0 flRX2_25 ?_
    refine z_icmp_ge 21 dX2_has_9 rfl (fun hc2 => ?_) (fun hc2 => ?_)
    · replace h := oT hc2 h
      refine z_iconst (M := mX2_has) (v := 0) dX2_has_21 rfl ?_
      cases h
      exact z_zret dX2_has_22 rfl rfl
    · replace h := oF hc2 h
      refine z_iload_n dX2_has_12 1 rfl ?_
      refine z_iconst (M := mX2_has) (v := 4) dX2_has_13 rfl ?_
      refine z_icmp_ge 21 dX2_has_14 rfl (fun hc3 => ?_) (fun hc3 => ?_)
      · replace h := oT hc3 h
        refine z_iconst (M := mX2_has) (v := 0) dX2_has_21 rfl ?_
        cases h
        exact z_zret dX2_has_22 rfl rfl
      · replace h := oF hc3 h
        refine z_iconst (M := mX2_has) (v := 1) dX2_has_17 rfl ?_
        refine z_goto 22 dX2_has_18 rfl ?_
        cases h
        exact z_zret dX2_has_22 rfl rfl
theorem ct_Pt_has {g : GG} {d : Nat} {x0 : Nat} {x1 : Int32} {ν : Nm} {r : Bool} (hd0 : 1 ≤ d) (hq0 : zk 333 x0 (1, 0)) (h : Pt_has ν x0 x1 = some r) : Ct g d mX2_has [.ref x0, .int x1] (zem ν) (some (.int (b2i r)), zem ν) := y_entry in_X2_has (Nat.le_of_ble_eq_true rfl) rfl (t_Pt_has hd0 x0 x1 r hq0 h)
-- FuseMinutes$Pit.makeNew(II)V
theorem dX2_makeNew_0 : decode cX2_makeNew 0 = .ok (.aload_n 0, 1) := by decide +kernel
theorem dX2_makeNew_1 : decode cX2_makeNew 1 = .ok (.getfield 15, 3) := by decide +kernel
theorem dX2_makeNew_4 : decode cX2_makeNew 4 = .ok (.iload_n 1, 1) := by decide +kernel
theorem dX2_makeNew_5 : decode cX2_makeNew 5 = .ok (.iload_n 2, 1) := by decide +kernel
theorem dX2_makeNew_6 : decode cX2_makeNew 6 = .ok (.bipush 64, 2) := by decide +kernel
theorem dX2_makeNew_8 : decode cX2_makeNew 8 = .ok (.imul, 1) := by decide +kernel
theorem dX2_makeNew_9 : decode cX2_makeNew 9 = .ok (.iastore, 1) := by decide +kernel
theorem dX2_makeNew_10 : decode cX2_makeNew 10 = .ok (.aload_n 0, 1) := by decide +kernel
theorem dX2_makeNew_11 : decode cX2_makeNew 11 = .ok (.getfield 19, 3) := by decide +kernel
theorem dX2_makeNew_14 : decode cX2_makeNew 14 = .ok (.iload_n 1, 1) := by decide +kernel
theorem dX2_makeNew_15 : decode cX2_makeNew 15 = .ok (.iconst 0, 1) := by decide +kernel
theorem dX2_makeNew_16 : decode cX2_makeNew 16 = .ok (.iastore, 1) := by decide +kernel
theorem dX2_makeNew_17 : decode cX2_makeNew 17 = .ok (.return_, 1) := by decide +kernel
def Pt_makeNew (x0 : Nat) (x1 : Int32) (x2 : Int32) (ν : Nm) : Option Nm :=
  if inb x1 4 then
  if inb x1 4 then
  some (si (si ν (x0 + 1) x1.toNatClampNeg (x2 * (64 : Int32))) (x0 + 2) x1.toNatClampNeg (0 : Int32))
  else none
  else none
set_option maxRecDepth 100000 in
set_option maxHeartbeats 4000000 in
theorem t_Pt_makeNew {g : GG} {d : Nat} (hd0 : 1 ≤ d) : ∀ (x0 : Nat) (x1 : Int32) (x2 : Int32) (ν : Nm) (r : Nm), zk 333 x0 (1, 0) → Pt_makeNew x0 x1 x2 ν = some r → Z g d (0, 0) mX2_makeNew 333 0 0 0 [(0, .ref x0), (1, .int x1), (2, .int x2)] [] (zem ν) (zF g (none, zem r)) := by
  intro x0 x1 x2 ν r hq0 h
  unfold Pt_makeNew at h
  refine z_aload_n dX2_makeNew_0 0 rfl ?_
  refine y_getR (M := mX2_makeNew) (r := (x0 + 1)) dX2_makeNew_1 hq0 flRX2_15 fr_1_4.1 (fr_1_4.2 _) ?_
  refine z_iload_n dX2_makeNew_4 1 rfl ?_
  refine z_iload_n dX2_makeNew_5 2 rfl ?_
  refine z_bipush (M := mX2_makeNew) (v := 64) dX2_makeNew_6 rfl ?_
  refine z_imul dX2_makeNew_8 ?_
  obtain ⟨hi1, h⟩ := oif h
  refine y_iast (M := mX2_makeNew) (jj := x1.toNatClampNeg) dX2_makeNew_9 (zko_1_4 hq0) hi1 rfl ?_
  refine z_aload_n dX2_makeNew_10 0 rfl ?_
  refine y_getR (M := mX2_makeNew) (r := (x0 + 2)) dX2_makeNew_11 hq0 flRX2_19 fr_1_5.1 (fr_1_5.2 _) ?_
  refine z_iload_n dX2_makeNew_14 1 rfl ?_
  refine z_iconst (M := mX2_makeNew) (v := 0) dX2_makeNew_15 rfl ?_
  obtain ⟨hi2, h⟩ := oif h
  refine y_iast (M := mX2_makeNew) (jj := x1.toNatClampNeg) dX2_makeNew_16 (zko_1_5 hq0) hi2 rfl ?_
  cases h
  exact z_vret dX2_makeNew_17 rfl
theorem ct_Pt_makeNew {g : GG} {d : Nat} {x0 : Nat} {x1 : Int32} {x2 : Int32} {ν : Nm} {r : Nm} (hd0 : 1 ≤ d) (hq0 : zk 333 x0 (1, 0)) (h : Pt_makeNew x0 x1 x2 ν = some r) : Ct g d mX2_makeNew [.ref x0, .int x1, .int x2] (zem ν) (none, zem r) := y_entry in_X2_makeNew (Nat.le_of_ble_eq_true rfl) rfl (t_Pt_makeNew hd0 x0 x1 x2 ν r hq0 h)
-- FuseMinutes$Pit.lay(I)V
theorem dX2_lay_0 : decode cX2_lay 0 = .ok (.aload_n 0, 1) := by decide +kernel
theorem dX2_lay_1 : decode cX2_lay 1 = .ok (.getfield 25, 3) := by decide +kernel
theorem dX2_lay_4 : decode cX2_lay 4 = .ok (.iconst 4, 1) := by decide +kernel
theorem dX2_lay_5 : decode cX2_lay 5 = .ok (.if_icmp .ge 22, 3) := by decide +kernel
theorem dX2_lay_8 : decode cX2_lay 8 = .ok (.aload_n 0, 1) := by decide +kernel
theorem dX2_lay_9 : decode cX2_lay 9 = .ok (.aload_n 0, 1) := by decide +kernel
theorem dX2_lay_10 : decode cX2_lay 10 = .ok (.getfield 25, 3) := by decide +kernel
theorem dX2_lay_13 : decode cX2_lay 13 = .ok (.iload_n 1, 1) := by decide +kernel
theorem dX2_lay_14 : decode cX2_lay 14 = .ok (.invokevirtual 43, 3) := by decide +kernel
theorem dX2_lay_17 : decode cX2_lay 17 = .ok (.aload_n 0, 1) := by decide +kernel
theorem dX2_lay_18 : decode cX2_lay 18 = .ok (.dup, 1) := by decide +kernel
theorem dX2_lay_19 : decode cX2_lay 19 = .ok (.getfield 25, 3) := by decide +kernel
theorem dX2_lay_22 : decode cX2_lay 22 = .ok (.iconst 1, 1) := by decide +kernel
theorem dX2_lay_23 : decode cX2_lay 23 = .ok (.iadd, 1) := by decide +kernel
theorem dX2_lay_24 : decode cX2_lay 24 = .ok (.putfield 25, 3) := by decide +kernel
theorem dX2_lay_27 : decode cX2_lay 27 = .ok (.return_, 1) := by decide +kernel
def Pt_lay (x0 : Nat) (x1 : Int32) (ν : Nm) : Option Nm :=
  (if (4 : Int32) ≤ (gi ν x0 0) then
    some ν
  else
    (Pt_makeNew x0 (gi ν x0 0) x1 ν).bind fun v2 =>
    some (si v2 x0 0 ((gi v2 x0 0) + (1 : Int32))))
set_option maxRecDepth 100000 in
set_option maxHeartbeats 4000000 in
theorem t_Pt_lay {g : GG} {d : Nat} (hd0 : 2 ≤ d) : ∀ (x0 : Nat) (x1 : Int32) (ν : Nm) (r : Nm), zk 333 x0 (1, 0) → Pt_lay x0 x1 ν = some r → Z g d (0, 0) mX2_lay 333 0 0 0 [(0, .ref x0), (1, .int x1)] [] (zem ν) (zF g (none, zem r)) := by
  intro x0 x1 ν r hq0 h
  unfold Pt_lay at h
  refine z_aload_n dX2_lay_0 0 rfl ?_
  refine y_getI dX2_lay_1 hq0 flRX2_25 ?_
  refine z_iconst (M := mX2_lay) (v := 4) dX2_lay_4 rfl ?_
  refine z_icmp_ge 27 dX2_lay_5 rfl (fun hc1 => ?_) (fun hc1 => ?_)
  · replace h := oT hc1 h
    cases h
    exact z_vret dX2_lay_27 rfl
  · replace h := oF hc1 h
    refine z_aload_n dX2_lay_8 0 rfl ?_
    refine z_aload_n dX2_lay_9 0 rfl ?_
    refine y_getI dX2_lay_10 hq0 flRX2_25 ?_
    refine z_iload_n dX2_lay_13 1 rfl ?_
    obtain ⟨v2, he2, h⟩ := obind h
    refine y_Vv (M := mX2_lay) (Y := mX2_makeNew) (d2 := d - 1) (As := [.int (gi ν x0 0), .int x1]) (st := []) dX2_lay_14 mlRX2_43 cv_X2_makeNew hq0 (ct_Pt_makeNew (dle (Nat.le_of_ble_eq_true rfl) hd0) hq0 he2) (dps (Nat.le_of_ble_eq_true rfl) hd0) rfl rfl (Nat.le_of_ble_eq_true rfl) ?_
    refine z_aload_n dX2_lay_17 0 rfl ?_
    refine z_dup dX2_lay_18 rfl ?_
    refine y_getI dX2_lay_19 hq0 flRX2_25 ?_
    refine z_iconst (M := mX2_lay) (v := 1) dX2_lay_22 rfl ?_
    refine z_iadd dX2_lay_23 ?_
    refine y_putI dX2_lay_24 hq0 flRX2_25 ⟨rfl, rfl⟩ ?_
    cases h
    exact z_vret dX2_lay_27 rfl
theorem ct_Pt_lay {g : GG} {d : Nat} {x0 : Nat} {x1 : Int32} {ν : Nm} {r : Nm} (hd0 : 2 ≤ d) (hq0 : zk 333 x0 (1, 0)) (h : Pt_lay x0 x1 ν = some r) : Ct g d mX2_lay [.ref x0, .int x1] (zem ν) (none, zem r) := y_entry in_X2_lay (Nat.le_of_ble_eq_true rfl) rfl (t_Pt_lay hd0 x0 x1 ν r hq0 h)
-- FuseMinutes$Pit.burns(II)Z
theorem dX2_burns_0 : decode cX2_burns 0 = .ok (.aload_n 0, 1) := by decide +kernel
theorem dX2_burns_1 : decode cX2_burns 1 = .ok (.iload_n 1, 1) := by decide +kernel
theorem dX2_burns_2 : decode cX2_burns 2 = .ok (.invokevirtual 47, 3) := by decide +kernel
theorem dX2_burns_5 : decode cX2_burns 5 = .ok (.ifCond .eq 20, 3) := by decide +kernel
theorem dX2_burns_8 : decode cX2_burns 8 = .ok (.aload_n 0, 1) := by decide +kernel
theorem dX2_burns_9 : decode cX2_burns 9 = .ok (.getfield 19, 3) := by decide +kernel
theorem dX2_burns_12 : decode cX2_burns 12 = .ok (.iload_n 1, 1) := by decide +kernel
theorem dX2_burns_13 : decode cX2_burns 13 = .ok (.iaload, 1) := by decide +kernel
theorem dX2_burns_14 : decode cX2_burns 14 = .ok (.iload_n 2, 1) := by decide +kernel
theorem dX2_burns_15 : decode cX2_burns 15 = .ok (.ishr, 1) := by decide +kernel
theorem dX2_burns_16 : decode cX2_burns 16 = .ok (.iconst 1, 1) := by decide +kernel
theorem dX2_burns_17 : decode cX2_burns 17 = .ok (.iand, 1) := by decide +kernel
theorem dX2_burns_18 : decode cX2_burns 18 = .ok (.ifCond .eq 7, 3) := by decide +kernel
theorem dX2_burns_21 : decode cX2_burns 21 = .ok (.iconst 1, 1) := by decide +kernel
theorem dX2_burns_22 : decode cX2_burns 22 = .ok (.goto 4, 3) := by decide +kernel
theorem dX2_burns_25 : decode cX2_burns 25 = .ok (.iconst 0, 1) := by decide +kernel
theorem dX2_burns_26 : decode cX2_burns 26 = .ok (.ireturn, 1) := by decide +kernel
def Pt_burns (ν : Nm) (x0 : Nat) (x1 : Int32) (x2 : Int32) : Option Bool :=
  (Pt_has ν x0 x1).bind fun v1 =>
  (if (b2i v1) = 0 then
    some false
  else
    if inb x1 4 then
    (if (((gi ν (x0 + 2) x1.toNatClampNeg) >>> (x2 &&& 31)) &&& (1 : Int32)) = 0 then
      some false
    else
      some true)
    else none)
set_option maxRecDepth 100000 in
set_option maxHeartbeats 4000000 in
theorem t_Pt_burns {g : GG} {d : Nat} {ν : Nm} (hd0 : 2 ≤ d) : ∀ (x0 : Nat) (x1 : Int32) (x2 : Int32) (r : Bool), zk 333 x0 (1, 0) → Pt_burns ν x0 x1 x2 = some r → Z g d (0, 0) mX2_burns 333 0 0 0 [(0, .ref x0), (1, .int x1), (2, .int x2)] [] (zem ν) (zF g (some (.int (b2i r)), zem ν)) := by
  intro x0 x1 x2 r hq0 h
  unfold Pt_burns at h
  refine z_aload_n dX2_burns_0 0 rfl ?_
  refine z_iload_n dX2_burns_1 1 rfl ?_
  obtain ⟨v1, he1, h⟩ := obind h
  refine y_Vi (M := mX2_burns) (Y := mX2_has) (d2 := d - 1) (As := [.int x1]) (st := []) dX2_burns_2 mlRX2_47 cv_X2_has hq0 (ct_Pt_has (dle (Nat.le_of_ble_eq_true rfl) hd0) hq0 he1) (dps (Nat.le_of_ble_eq_true rfl) hd0) rfl rfl (Nat.le_of_ble_eq_true rfl) ?_
  refine z_if_eq 25 dX2_burns_5 rfl (fun hc2 => ?_) (fun hc2 => ?_)
  · replace h := oT hc2 h
    refine z_iconst (M := mX2_burns) (v := 0) dX2_burns_25 rfl ?_
    cases h
    exact z_zret dX2_burns_26 rfl rfl
  · replace h := oF hc2 h
    refine z_aload_n dX2_burns_8 0 rfl ?_
    refine y_getR (M := mX2_burns) (r := (x0 + 2)) dX2_burns_9 hq0 flRX2_19 fr_1_5.1 (fr_1_5.2 _) ?_
    refine z_iload_n dX2_burns_12 1 rfl ?_
    obtain ⟨hi3, h⟩ := oif h
    refine y_iald (M := mX2_burns) (jj := x1.toNatClampNeg) dX2_burns_13 (zko_1_5 hq0) hi3 rfl ?_
    refine z_iload_n dX2_burns_14 2 rfl ?_
    refine z_ishr dX2_burns_15 ?_
    refine z_iconst (M := mX2_burns) (v := 1) dX2_burns_16 rfl ?_
    refine z_iand dX2_burns_17 ?_
    refine z_if_eq 25 dX2_burns_18 rfl (fun hc4 => ?_) (fun hc4 => ?_)
    · replace h := oT hc4 h
      refine z_iconst (M := mX2_burns) (v := 0) dX2_burns_25 rfl ?_
      cases h
      exact z_zret dX2_burns_26 rfl rfl
    · replace h := oF hc4 h
      refine z_iconst (M := mX2_burns) (v := 1) dX2_burns_21 rfl ?_
      refine z_goto 26 dX2_burns_22 rfl ?_
      cases h
      exact z_zret dX2_burns_26 rfl rfl
theorem ct_Pt_burns {g : GG} {d : Nat} {x0 : Nat} {x1 : Int32} {x2 : Int32} {ν : Nm} {r : Bool} (hd0 : 2 ≤ d) (hq0 : zk 333 x0 (1, 0)) (h : Pt_burns ν x0 x1 x2 = some r) : Ct g d mX2_burns [.ref x0, .int x1, .int x2] (zem ν) (some (.int (b2i r)), zem ν) := y_entry in_X2_burns (Nat.le_of_ble_eq_true rfl) rfl (t_Pt_burns hd0 x0 x1 x2 r hq0 h)
-- FuseMinutes$Pit.writeDown(III)V
theorem dX2_writeDown_0 : decode cX2_writeDown 0 = .ok (.aload_n 0, 1) := by decide +kernel
theorem dX2_writeDown_1 : decode cX2_writeDown 1 = .ok (.getfield 34, 3) := by decide +kernel
theorem dX2_writeDown_4 : decode cX2_writeDown 4 = .ok (.bipush 30, 2) := by decide +kernel
theorem dX2_writeDown_6 : decode cX2_writeDown 6 = .ok (.if_icmp .lt 24, 3) := by decide +kernel
theorem dX2_writeDown_9 : decode cX2_writeDown 9 = .ok (.aload_n 0, 1) := by decide +kernel
theorem dX2_writeDown_10 : decode cX2_writeDown 10 = .ok (.getfield 22, 3) := by decide +kernel
theorem dX2_writeDown_13 : decode cX2_writeDown 13 = .ok (.iconst 1, 1) := by decide +kernel
theorem dX2_writeDown_14 : decode cX2_writeDown 14 = .ok (.aload_n 0, 1) := by decide +kernel
theorem dX2_writeDown_15 : decode cX2_writeDown 15 = .ok (.getfield 22, 3) := by decide +kernel
theorem dX2_writeDown_18 : decode cX2_writeDown 18 = .ok (.iconst 0, 1) := by decide +kernel
theorem dX2_writeDown_19 : decode cX2_writeDown 19 = .ok (.bipush 29, 2) := by decide +kernel
theorem dX2_writeDown_21 : decode cX2_writeDown 21 = .ok (.invokestatic 37, 3) := by decide +kernel
theorem dX2_writeDown_24 : decode cX2_writeDown 24 = .ok (.aload_n 0, 1) := by decide +kernel
theorem dX2_writeDown_25 : decode cX2_writeDown 25 = .ok (.bipush 29, 2) := by decide +kernel
theorem dX2_writeDown_27 : decode cX2_writeDown 27 = .ok (.putfield 34, 3) := by decide +kernel
theorem dX2_writeDown_30 : decode cX2_writeDown 30 = .ok (.aload_n 0, 1) := by decide +kernel
theorem dX2_writeDown_31 : decode cX2_writeDown 31 = .ok (.getfield 22, 3) := by decide +kernel
theorem dX2_writeDown_34 : decode cX2_writeDown 34 = .ok (.aload_n 0, 1) := by decide +kernel
theorem dX2_writeDown_35 : decode cX2_writeDown 35 = .ok (.getfield 34, 3) := by decide +kernel
theorem dX2_writeDown_38 : decode cX2_writeDown 38 = .ok (.aload_n 0, 1) := by decide +kernel
theorem dX2_writeDown_39 : decode cX2_writeDown 39 = .ok (.getfield 28, 3) := by decide +kernel
theorem dX2_writeDown_42 : decode cX2_writeDown 42 = .ok (.iconst 5, 1) := by decide +kernel
theorem dX2_writeDown_43 : decode cX2_writeDown 43 = .ok (.ishl, 1) := by decide +kernel
theorem dX2_writeDown_44 : decode cX2_writeDown 44 = .ok (.iload_n 1, 1) := by decide +kernel
theorem dX2_writeDown_45 : decode cX2_writeDown 45 = .ok (.iconst 3, 1) := by decide +kernel
theorem dX2_writeDown_46 : decode cX2_writeDown 46 = .ok (.ishl, 1) := by decide +kernel
theorem dX2_writeDown_47 : decode cX2_writeDown 47 = .ok (.ior, 1) := by decide +kernel
theorem dX2_writeDown_48 : decode cX2_writeDown 48 = .ok (.iload_n 2, 1) := by decide +kernel
theorem dX2_writeDown_49 : decode cX2_writeDown 49 = .ok (.iconst 1, 1) := by decide +kernel
theorem dX2_writeDown_50 : decode cX2_writeDown 50 = .ok (.ishl, 1) := by decide +kernel
theorem dX2_writeDown_51 : decode cX2_writeDown 51 = .ok (.ior, 1) := by decide +kernel
theorem dX2_writeDown_52 : decode cX2_writeDown 52 = .ok (.iload_n 3, 1) := by decide +kernel
theorem dX2_writeDown_53 : decode cX2_writeDown 53 = .ok (.ior, 1) := by decide +kernel
theorem dX2_writeDown_54 : decode cX2_writeDown 54 = .ok (.iastore, 1) := by decide +kernel
theorem dX2_writeDown_55 : decode cX2_writeDown 55 = .ok (.aload_n 0, 1) := by decide +kernel
theorem dX2_writeDown_56 : decode cX2_writeDown 56 = .ok (.dup, 1) := by decide +kernel
theorem dX2_writeDown_57 : decode cX2_writeDown 57 = .ok (.getfield 34, 3) := by decide +kernel
theorem dX2_writeDown_60 : decode cX2_writeDown 60 = .ok (.iconst 1, 1) := by decide +kernel
theorem dX2_writeDown_61 : decode cX2_writeDown 61 = .ok (.iadd, 1) := by decide +kernel
theorem dX2_writeDown_62 : decode cX2_writeDown 62 = .ok (.putfield 34, 3) := by decide +kernel
theorem dX2_writeDown_65 : decode cX2_writeDown 65 = .ok (.return_, 1) := by decide +kernel
def Pt_writeDown_65 (ν : Nm) : Option Nm :=
  some ν
set_option maxRecDepth 100000 in
set_option maxHeartbeats 4000000 in
theorem t_Pt_writeDown_65 {g : GG} {d : Nat} (hd0 : 1 ≤ d) : ∀ (ν : Nm) (r : Nm), Pt_writeDown_65 ν = some r → Z g d (0, 0) mX2_writeDown 333 0 0 65 [] [] (zem ν) (zF g (none, zem r)) := by
  intro ν r h
  unfold Pt_writeDown_65 at h
  cases h
  exact z_vret dX2_writeDown_65 rfl
def Pt_writeDown_30 (x0 : Nat) (x1 : Int32) (x2 : Int32) (x3 : Int32) (ν : Nm) : Option Nm :=
  if inb (gi ν x0 7) 30 then
  Pt_writeDown_65 (si (si ν (x0 + 3) (gi ν x0 7).toNatClampNeg (((((gi ν x0 1) <<< ((5 : Int32) &&& 31)) ||| (x1 <<< ((3 : Int32) &&& 31))) ||| (x2 <<< ((1 : Int32) &&& 31))) ||| x3)) x0 7 ((gi (si ν (x0 + 3) (gi ν x0 7).toNatClampNeg (((((gi ν x0 1) <<< ((5 : Int32) &&& 31)) ||| (x1 <<< ((3 : Int32) &&& 31))) ||| (x2 <<< ((1 : Int32) &&& 31))) ||| x3)) x0 7) + (1 : Int32)))
  else none
set_option maxRecDepth 100000 in
set_option maxHeartbeats 4000000 in
theorem t_Pt_writeDown_30 {g : GG} {d : Nat} (hd0 : 1 ≤ d) : ∀ (x0 : Nat) (x1 : Int32) (x2 : Int32) (x3 : Int32) (ν : Nm) (r : Nm), zk 333 x0 (1, 0) → Pt_writeDown_30 x0 x1 x2 x3 ν = some r → Z g d (0, 0) mX2_writeDown 333 0 0 30 [(0, .ref x0), (1, .int x1), (2, .int x2), (3, .int x3)] [] (zem ν) (zF g (none, zem r)) := by
  intro x0 x1 x2 x3 ν r hq0 h
  unfold Pt_writeDown_30 at h
  refine z_aload_n dX2_writeDown_30 0 rfl ?_
  refine y_getR (M := mX2_writeDown) (r := (x0 + 3)) dX2_writeDown_31 hq0 flRX2_22 fr_1_6.1 (fr_1_6.2 _) ?_
  refine z_aload_n dX2_writeDown_34 0 rfl ?_
  refine y_getI dX2_writeDown_35 hq0 flRX2_34 ?_
  refine z_aload_n dX2_writeDown_38 0 rfl ?_
  refine y_getI dX2_writeDown_39 hq0 flRX2_28 ?_
  refine z_iconst (M := mX2_writeDown) (v := 5) dX2_writeDown_42 rfl ?_
  refine z_ishl dX2_writeDown_43 ?_
  refine z_iload_n dX2_writeDown_44 1 rfl ?_
  refine z_iconst (M := mX2_writeDown) (v := 3) dX2_writeDown_45 rfl ?_
  refine z_ishl dX2_writeDown_46 ?_
  refine z_ior dX2_writeDown_47 ?_
  refine z_iload_n dX2_writeDown_48 2 rfl ?_
  refine z_iconst (M := mX2_writeDown) (v := 1) dX2_writeDown_49 rfl ?_
  refine z_ishl dX2_writeDown_50 ?_
  refine z_ior dX2_writeDown_51 ?_
  refine z_iload_n dX2_writeDown_52 3 rfl ?_
  refine z_ior dX2_writeDown_53 ?_
  obtain ⟨hi1, h⟩ := oif h
  refine y_iast (M := mX2_writeDown) (jj := (gi ν x0 7).toNatClampNeg) dX2_writeDown_54 (zko_1_6 hq0) hi1 rfl ?_
  refine z_aload_n dX2_writeDown_55 0 rfl ?_
  refine z_dup dX2_writeDown_56 rfl ?_
  refine y_getI dX2_writeDown_57 hq0 flRX2_34 ?_
  refine z_iconst (M := mX2_writeDown) (v := 1) dX2_writeDown_60 rfl ?_
  refine z_iadd dX2_writeDown_61 ?_
  refine y_putI dX2_writeDown_62 hq0 flRX2_34 ⟨rfl, rfl⟩ ?_
  refine z_lv (lv2 := []) [] rfl ?_
  exact t_Pt_writeDown_65 hd0  (si (si ν (x0 + 3) (gi ν x0 7).toNatClampNeg (((((gi ν x0 1) <<< ((5 : Int32) &&& 31)) ||| (x1 <<< ((3 : Int32) &&& 31))) ||| (x2 <<< ((1 : Int32) &&& 31))) ||| x3)) x0 7 ((gi (si ν (x0 + 3) (gi ν x0 7).toNatClampNeg (((((gi ν x0 1) <<< ((5 : Int32) &&& 31)) ||| (x1 <<< ((3 : Int32) &&& 31))) ||| (x2 <<< ((1 : Int32) &&& 31))) ||| x3)) x0 7) + (1 : Int32))) _ h
def Pt_writeDown (x0 : Nat) (x1 : Int32) (x2 : Int32) (x3 : Int32) (ν : Nm) : Option Nm :=
  (if (gi ν x0 7) < (30 : Int32) then
    Pt_writeDown_30 x0 x1 x2 x3 ν
  else
    Pt_writeDown_30 x0 x1 x2 x3 (si (scp ν (x0 + 3) 1 (x0 + 3) 0 29) x0 7 (29 : Int32)))
set_option maxRecDepth 100000 in
set_option maxHeartbeats 4000000 in
theorem t_Pt_writeDown {g : GG} {d : Nat} (hd0 : 1 ≤ d) : ∀ (x0 : Nat) (x1 : Int32) (x2 : Int32) (x3 : Int32) (ν : Nm) (r : Nm), zk 333 x0 (1, 0) → Pt_writeDown x0 x1 x2 x3 ν = some r → Z g d (0, 0) mX2_writeDown 333 0 0 0 [(0, .ref x0), (1, .int x1), (2, .int x2), (3, .int x3)] [] (zem ν) (zF g (none, zem r)) := by
  intro x0 x1 x2 x3 ν r hq0 h
  unfold Pt_writeDown at h
  refine z_aload_n dX2_writeDown_0 0 rfl ?_
  refine y_getI dX2_writeDown_1 hq0 flRX2_34 ?_
  refine z_bipush (M := mX2_writeDown) (v := 30) dX2_writeDown_4 rfl ?_
  refine z_icmp_lt 30 dX2_writeDown_6 rfl (fun hc1 => ?_) (fun hc1 => ?_)
  · replace h := oT hc1 h
    exact t_Pt_writeDown_30 hd0  x0 x1 x2 x3 ν _ hq0 h
  · replace h := oF hc1 h
    refine z_aload_n dX2_writeDown_9 0 rfl ?_
    refine y_getR (M := mX2_writeDown) (r := (x0 + 3)) dX2_writeDown_10 hq0 flRX2_22 fr_1_6.1 (fr_1_6.2 _) ?_
    refine z_iconst (M := mX2_writeDown) (v := 1) dX2_writeDown_13 rfl ?_
    refine z_aload_n dX2_writeDown_14 0 rfl ?_
    refine y_getR (M := mX2_writeDown) (r := (x0 + 3)) dX2_writeDown_15 hq0 flRX2_22 fr_1_6.1 (fr_1_6.2 _) ?_
    refine z_iconst (M := mX2_writeDown) (v := 0) dX2_writeDown_18 rfl ?_
    refine z_bipush (M := mX2_writeDown) (v := 29) dX2_writeDown_19 rfl ?_
    refine y_copy dX2_writeDown_21 (cpw mlRX2_37) (zko_1_6 hq0) (zko_1_6 hq0) (by decide) (Nat.le_trans (Nat.le_of_ble_eq_true rfl) hd0) (Nat.le_of_ble_eq_true rfl) rfl rfl rfl ?_
    refine z_aload_n dX2_writeDown_24 0 rfl ?_
    refine z_bipush (M := mX2_writeDown) (v := 29) dX2_writeDown_25 rfl ?_
    refine y_putI dX2_writeDown_27 hq0 flRX2_34 ⟨rfl, rfl⟩ ?_
    exact t_Pt_writeDown_30 hd0  x0 x1 x2 x3 (si (scp ν (x0 + 3) 1 (x0 + 3) 0 29) x0 7 (29 : Int32)) _ hq0 h
theorem ct_Pt_writeDown {g : GG} {d : Nat} {x0 : Nat} {x1 : Int32} {x2 : Int32} {x3 : Int32} {ν : Nm} {r : Nm} (hd0 : 1 ≤ d) (hq0 : zk 333 x0 (1, 0)) (h : Pt_writeDown x0 x1 x2 x3 ν = some r) : Ct g d mX2_writeDown [.ref x0, .int x1, .int x2, .int x3] (zem ν) (none, zem r) := y_entry in_X2_writeDown (Nat.le_of_ble_eq_true rfl) rfl (t_Pt_writeDown hd0 x0 x1 x2 x3 ν r hq0 h)
-- FuseMinutes$Pit.putOut(II)V
theorem dX2_putOut_0 : decode cX2_putOut 0 = .ok (.aload_n 0, 1) := by decide +kernel
theorem dX2_putOut_1 : decode cX2_putOut 1 = .ok (.getfield 19, 3) := by decide +kernel
theorem dX2_putOut_4 : decode cX2_putOut 4 = .ok (.iload_n 1, 1) := by decide +kernel
theorem dX2_putOut_5 : decode cX2_putOut 5 = .ok (.dup2, 1) := by decide +kernel
theorem dX2_putOut_6 : decode cX2_putOut 6 = .ok (.iaload, 1) := by decide +kernel
theorem dX2_putOut_7 : decode cX2_putOut 7 = .ok (.iconst 1, 1) := by decide +kernel
theorem dX2_putOut_8 : decode cX2_putOut 8 = .ok (.iload_n 2, 1) := by decide +kernel
theorem dX2_putOut_9 : decode cX2_putOut 9 = .ok (.ishl, 1) := by decide +kernel
theorem dX2_putOut_10 : decode cX2_putOut 10 = .ok (.iconst (-1), 1) := by decide +kernel
theorem dX2_putOut_11 : decode cX2_putOut 11 = .ok (.ixor, 1) := by decide +kernel
theorem dX2_putOut_12 : decode cX2_putOut 12 = .ok (.iand, 1) := by decide +kernel
theorem dX2_putOut_13 : decode cX2_putOut 13 = .ok (.iastore, 1) := by decide +kernel
theorem dX2_putOut_14 : decode cX2_putOut 14 = .ok (.aload_n 0, 1) := by decide +kernel
theorem dX2_putOut_15 : decode cX2_putOut 15 = .ok (.iload_n 1, 1) := by decide +kernel
theorem dX2_putOut_16 : decode cX2_putOut 16 = .ok (.iconst 2, 1) := by decide +kernel
theorem dX2_putOut_17 : decode cX2_putOut 17 = .ok (.iload_n 2, 1) := by decide +kernel
theorem dX2_putOut_18 : decode cX2_putOut 18 = .ok (.invokevirtual 51, 3) := by decide +kernel
theorem dX2_putOut_21 : decode cX2_putOut 21 = .ok (.return_, 1) := by decide +kernel
def Pt_putOut (x0 : Nat) (x1 : Int32) (x2 : Int32) (ν : Nm) : Option Nm :=
  if inb x1 4 then
  if inb x1 4 then
  (Pt_writeDown x0 x1 (2 : Int32) x2 (si ν (x0 + 2) x1.toNatClampNeg ((gi ν (x0 + 2) x1.toNatClampNeg) &&& (((1 : Int32) <<< (x2 &&& 31)) ^^^ (-1 : Int32))))).bind fun v3 =>
  some v3
  else none
  else none
set_option maxRecDepth 100000 in
set_option maxHeartbeats 4000000 in
theorem t_Pt_putOut {g : GG} {d : Nat} (hd0 : 2 ≤ d) : ∀ (x0 : Nat) (x1 : Int32) (x2 : Int32) (ν : Nm) (r : Nm), zk 333 x0 (1, 0) → Pt_putOut x0 x1 x2 ν = some r → Z g d (0, 0) mX2_putOut 333 0 0 0 [(0, .ref x0), (1, .int x1), (2, .int x2)] [] (zem ν) (zF g (none, zem r)) := by
  intro x0 x1 x2 ν r hq0 h
  unfold Pt_putOut at h
  refine z_aload_n dX2_putOut_0 0 rfl ?_
  refine y_getR (M := mX2_putOut) (r := (x0 + 2)) dX2_putOut_1 hq0 flRX2_19 fr_1_5.1 (fr_1_5.2 _) ?_
  refine z_iload_n dX2_putOut_4 1 rfl ?_
  refine z_dup2 dX2_putOut_5 rfl rfl ?_
  obtain ⟨hi1, h⟩ := oif h
  refine y_iald (M := mX2_putOut) (jj := x1.toNatClampNeg) dX2_putOut_6 (zko_1_5 hq0) hi1 rfl ?_
  refine z_iconst (M := mX2_putOut) (v := 1) dX2_putOut_7 rfl ?_
  refine z_iload_n dX2_putOut_8 2 rfl ?_
  refine z_ishl dX2_putOut_9 ?_
  refine z_iconst (M := mX2_putOut) (v := -1) dX2_putOut_10 rfl ?_
  refine z_ixor dX2_putOut_11 ?_
  refine z_iand dX2_putOut_12 ?_
  obtain ⟨hi2, h⟩ := oif h
  refine y_iast (M := mX2_putOut) (jj := x1.toNatClampNeg) dX2_putOut_13 (zko_1_5 hq0) hi2 rfl ?_
  refine z_aload_n dX2_putOut_14 0 rfl ?_
  refine z_iload_n dX2_putOut_15 1 rfl ?_
  refine z_iconst (M := mX2_putOut) (v := 2) dX2_putOut_16 rfl ?_
  refine z_iload_n dX2_putOut_17 2 rfl ?_
  obtain ⟨v3, he3, h⟩ := obind h
  refine y_Vv (M := mX2_putOut) (Y := mX2_writeDown) (d2 := d - 1) (As := [.int x1, .int (2 : Int32), .int x2]) (st := []) dX2_putOut_18 mlRX2_51 cv_X2_writeDown hq0 (ct_Pt_writeDown (dle (Nat.le_of_ble_eq_true rfl) hd0) hq0 he3) (dps (Nat.le_of_ble_eq_true rfl) hd0) rfl rfl (Nat.le_of_ble_eq_true rfl) ?_
  cases h
  exact z_vret dX2_putOut_21 rfl
theorem ct_Pt_putOut {g : GG} {d : Nat} {x0 : Nat} {x1 : Int32} {x2 : Int32} {ν : Nm} {r : Nm} (hd0 : 2 ≤ d) (hq0 : zk 333 x0 (1, 0)) (h : Pt_putOut x0 x1 x2 ν = some r) : Ct g d mX2_putOut [.ref x0, .int x1, .int x2] (zem ν) (none, zem r) := y_entry in_X2_putOut (Nat.le_of_ble_eq_true rfl) rfl (t_Pt_putOut hd0 x0 x1 x2 ν r hq0 h)
-- FuseMinutes$Pit.touch(IIZ)V
theorem dX2_touch_0 : decode cX2_touch 0 = .ok (.aload_n 0, 1) := by decide +kernel
theorem dX2_touch_1 : decode cX2_touch 1 = .ok (.dup, 1) := by decide +kernel
theorem dX2_touch_2 : decode cX2_touch 2 = .ok (.getfield 31, 3) := by decide +kernel
theorem dX2_touch_5 : decode cX2_touch 5 = .ok (.iconst 1, 1) := by decide +kernel
theorem dX2_touch_6 : decode cX2_touch 6 = .ok (.iadd, 1) := by decide +kernel
theorem dX2_touch_7 : decode cX2_touch 7 = .ok (.putfield 31, 3) := by decide +kernel
theorem dX2_touch_10 : decode cX2_touch 10 = .ok (.iload_n 3, 1) := by decide +kernel
theorem dX2_touch_11 : decode cX2_touch 11 = .ok (.ifCond .ne 15, 3) := by decide +kernel
theorem dX2_touch_14 : decode cX2_touch 14 = .ok (.aload_n 0, 1) := by decide +kernel
theorem dX2_touch_15 : decode cX2_touch 15 = .ok (.getfield 19, 3) := by decide +kernel
theorem dX2_touch_18 : decode cX2_touch 18 = .ok (.iload_n 1, 1) := by decide +kernel
theorem dX2_touch_19 : decode cX2_touch 19 = .ok (.dup2, 1) := by decide +kernel
theorem dX2_touch_20 : decode cX2_touch 20 = .ok (.iaload, 1) := by decide +kernel
theorem dX2_touch_21 : decode cX2_touch 21 = .ok (.iconst 1, 1) := by decide +kernel
theorem dX2_touch_22 : decode cX2_touch 22 = .ok (.iload_n 2, 1) := by decide +kernel
theorem dX2_touch_23 : decode cX2_touch 23 = .ok (.ishl, 1) := by decide +kernel
theorem dX2_touch_24 : decode cX2_touch 24 = .ok (.ior, 1) := by decide +kernel
theorem dX2_touch_25 : decode cX2_touch 25 = .ok (.iastore, 1) := by decide +kernel
theorem dX2_touch_26 : decode cX2_touch 26 = .ok (.aload_n 0, 1) := by decide +kernel
theorem dX2_touch_27 : decode cX2_touch 27 = .ok (.iload_n 1, 1) := by decide +kernel
theorem dX2_touch_28 : decode cX2_touch 28 = .ok (.iload_n 3, 1) := by decide +kernel
theorem dX2_touch_29 : decode cX2_touch 29 = .ok (.ifCond .eq 7, 3) := by decide +kernel
theorem dX2_touch_32 : decode cX2_touch 32 = .ok (.iconst 1, 1) := by decide +kernel
theorem dX2_touch_33 : decode cX2_touch 33 = .ok (.goto 4, 3) := by decide +kernel
theorem dX2_touch_36 : decode cX2_touch 36 = .ok (.iconst 0, 1) := by decide +kernel
theorem dX2_touch_37 : decode cX2_touch 37 = .ok (.iload_n 2, 1) := by decide +kernel
theorem dX2_touch_38 : decode cX2_touch 38 = .ok (.invokevirtual 51, 3) := by decide +kernel
theorem dX2_touch_41 : decode cX2_touch 41 = .ok (.return_, 1) := by decide +kernel
def Pt_touch_37 (x2 : Int32) (s0 : Int32) (s1 : Int32) (s2 : Nat) (ν : Nm) : Option Nm :=
  (Pt_writeDown s2 s1 s0 x2 ν).bind fun v1 =>
  some v1
set_option maxRecDepth 100000 in
set_option maxHeartbeats 4000000 in
theorem t_Pt_touch_37 {g : GG} {d : Nat} (hd0 : 2 ≤ d) : ∀ (x2 : Int32) (s0 : Int32) (s1 : Int32) (s2 : Nat) (ν : Nm) (r : Nm), zk 333 s2 (1, 0) → Pt_touch_37 x2 s0 s1 s2 ν = some r → Z g d (0, 0) mX2_touch 333 0 0 37 [(2, .int x2)] [.int s0, .int s1, .ref s2] (zem ν) (zF g (none, zem r)) := by
  intro x2 s0 s1 s2 ν r hs2 h
  unfold Pt_touch_37 at h
  refine z_iload_n dX2_touch_37 0 rfl ?_
  obtain ⟨v1, he1, h⟩ := obind h
  refine y_Vv (M := mX2_touch) (Y := mX2_writeDown) (d2 := d - 1) (As := [.int s1, .int s0, .int x2]) (st := []) dX2_touch_38 mlRX2_51 cv_X2_writeDown hs2 (ct_Pt_writeDown (dle (Nat.le_of_ble_eq_true rfl) hd0) hs2 he1) (dps (Nat.le_of_ble_eq_true rfl) hd0) rfl rfl (Nat.le_of_ble_eq_true rfl) ?_
  cases h
  exact z_vret dX2_touch_41 rfl
def Pt_touch_26 (x0 : Nat) (x1 : Int32) (x2 : Int32) (x3 : Int32) (ν : Nm) : Option Nm :=
  (if x3 = 0 then
    Pt_touch_37 x2 (0 : Int32) x1 x0 ν
  else
    Pt_touch_37 x2 (1 : Int32) x1 x0 ν)
set_option maxRecDepth 100000 in
set_option maxHeartbeats 4000000 in
theorem t_Pt_touch_26 {g : GG} {d : Nat} (hd0 : 2 ≤ d) : ∀ (x0 : Nat) (x1 : Int32) (x2 : Int32) (x3 : Int32) (ν : Nm) (r : Nm), zk 333 x0 (1, 0) → Pt_touch_26 x0 x1 x2 x3 ν = some r → Z g d (0, 0) mX2_touch 333 0 0 26 [(0, .ref x0), (1, .int x1), (2, .int x2), (3, .int x3)] [] (zem ν) (zF g (none, zem r)) := by
  intro x0 x1 x2 x3 ν r hq0 h
  unfold Pt_touch_26 at h
  refine z_aload_n dX2_touch_26 0 rfl ?_
  refine z_iload_n dX2_touch_27 1 rfl ?_
  refine z_iload_n dX2_touch_28 3 rfl ?_
  refine z_if_eq 36 dX2_touch_29 rfl (fun hc1 => ?_) (fun hc1 => ?_)
  · replace h := oT hc1 h
    refine z_iconst (M := mX2_touch) (v := 0) dX2_touch_36 rfl ?_
    refine z_lv (lv2 := [(2, .int x2)]) [2] rfl ?_
    exact t_Pt_touch_37 hd0  x2 (0 : Int32) x1 x0 ν _ hq0 h
  · replace h := oF hc1 h
    refine z_iconst (M := mX2_touch) (v := 1) dX2_touch_32 rfl ?_
    refine z_goto 37 dX2_touch_33 rfl ?_
    refine z_lv (lv2 := [(2, .int x2)]) [2] rfl ?_
    exact t_Pt_touch_37 hd0  x2 (1 : Int32) x1 x0 ν _ hq0 h
def Pt_touch (x0 : Nat) (x1 : Int32) (x2 : Int32) (x3 : Int32) (ν : Nm) : Option Nm :=
  (if ¬ x3 = 0 then
    Pt_touch_26 x0 x1 x2 x3 (si ν x0 3 ((gi ν x0 3) + (1 : Int32)))
  else
    if inb x1 4 then
    if inb x1 4 then
    Pt_touch_26 x0 x1 x2 x3 (si (si ν x0 3 ((gi ν x0 3) + (1 : Int32))) (x0 + 2) x1.toNatClampNeg ((gi (si ν x0 3 ((gi ν x0 3) + (1 : Int32))) (x0 + 2) x1.toNatClampNeg) ||| ((1 : Int32) <<< (x2 &&& 31))))
    else none
    else none)
set_option maxRecDepth 100000 in
set_option maxHeartbeats 4000000 in
theorem t_Pt_touch {g : GG} {d : Nat} (hd0 : 2 ≤ d) : ∀ (x0 : Nat) (x1 : Int32) (x2 : Int32) (x3 : Int32) (ν : Nm) (r : Nm), zk 333 x0 (1, 0) → Pt_touch x0 x1 x2 x3 ν = some r → Z g d (0, 0) mX2_touch 333 0 0 0 [(0, .ref x0), (1, .int x1), (2, .int x2), (3, .int x3)] [] (zem ν) (zF g (none, zem r)) := by
  intro x0 x1 x2 x3 ν r hq0 h
  unfold Pt_touch at h
  refine z_aload_n dX2_touch_0 0 rfl ?_
  refine z_dup dX2_touch_1 rfl ?_
  refine y_getI dX2_touch_2 hq0 flRX2_31 ?_
  refine z_iconst (M := mX2_touch) (v := 1) dX2_touch_5 rfl ?_
  refine z_iadd dX2_touch_6 ?_
  refine y_putI dX2_touch_7 hq0 flRX2_31 ⟨rfl, rfl⟩ ?_
  refine z_iload_n dX2_touch_10 3 rfl ?_
  refine z_if_ne 26 dX2_touch_11 rfl (fun hc1 => ?_) (fun hc1 => ?_)
  · replace h := oT hc1 h
    exact t_Pt_touch_26 hd0  x0 x1 x2 x3 (si ν x0 3 ((gi ν x0 3) + (1 : Int32))) _ hq0 h
  · replace h := oFn hc1 h
    refine z_aload_n dX2_touch_14 0 rfl ?_
    refine y_getR (M := mX2_touch) (r := (x0 + 2)) dX2_touch_15 hq0 flRX2_19 fr_1_5.1 (fr_1_5.2 _) ?_
    refine z_iload_n dX2_touch_18 1 rfl ?_
    refine z_dup2 dX2_touch_19 rfl rfl ?_
    obtain ⟨hi2, h⟩ := oif h
    refine y_iald (M := mX2_touch) (jj := x1.toNatClampNeg) dX2_touch_20 (zko_1_5 hq0) hi2 rfl ?_
    refine z_iconst (M := mX2_touch) (v := 1) dX2_touch_21 rfl ?_
    refine z_iload_n dX2_touch_22 2 rfl ?_
    refine z_ishl dX2_touch_23 ?_
    refine z_ior dX2_touch_24 ?_
    obtain ⟨hi3, h⟩ := oif h
    refine y_iast (M := mX2_touch) (jj := x1.toNatClampNeg) dX2_touch_25 (zko_1_5 hq0) hi3 rfl ?_
    exact t_Pt_touch_26 hd0  x0 x1 x2 x3 (si (si ν x0 3 ((gi ν x0 3) + (1 : Int32))) (x0 + 2) x1.toNatClampNeg ((gi (si ν x0 3 ((gi ν x0 3) + (1 : Int32))) (x0 + 2) x1.toNatClampNeg) ||| ((1 : Int32) <<< (x2 &&& 31)))) _ hq0 h
theorem ct_Pt_touch {g : GG} {d : Nat} {x0 : Nat} {x1 : Int32} {x2 : Int32} {x3 : Int32} {ν : Nm} {r : Nm} (hd0 : 2 ≤ d) (hq0 : zk 333 x0 (1, 0)) (h : Pt_touch x0 x1 x2 x3 ν = some r) : Ct g d mX2_touch [.ref x0, .int x1, .int x2, .int x3] (zem ν) (none, zem r) := y_entry in_X2_touch (Nat.le_of_ble_eq_true rfl) rfl (t_Pt_touch hd0 x0 x1 x2 x3 ν r hq0 h)
-- FuseMinutes$Pit.draw()I
theorem dX2_draw_0 : decode cX2_draw 0 = .ok (.aload_n 0, 1) := by decide +kernel
theorem dX2_draw_1 : decode cX2_draw 1 = .ok (.getfield 9, 3) := by decide +kernel
theorem dX2_draw_4 : decode cX2_draw 4 = .ok (.istore_n 1, 1) := by decide +kernel
theorem dX2_draw_5 : decode cX2_draw 5 = .ok (.aload_n 0, 1) := by decide +kernel
theorem dX2_draw_6 : decode cX2_draw 6 = .ok (.aload_n 0, 1) := by decide +kernel
theorem dX2_draw_7 : decode cX2_draw 7 = .ok (.getfield 9, 3) := by decide +kernel
theorem dX2_draw_10 : decode cX2_draw 10 = .ok (.sipush 569, 3) := by decide +kernel
theorem dX2_draw_13 : decode cX2_draw 13 = .ok (.imul, 1) := by decide +kernel
theorem dX2_draw_14 : decode cX2_draw 14 = .ok (.sipush 439, 3) := by decide +kernel
theorem dX2_draw_17 : decode cX2_draw 17 = .ok (.iadd, 1) := by decide +kernel
theorem dX2_draw_18 : decode cX2_draw 18 = .ok (.sipush 30781, 3) := by decide +kernel
theorem dX2_draw_21 : decode cX2_draw 21 = .ok (.irem, 1) := by decide +kernel
theorem dX2_draw_22 : decode cX2_draw 22 = .ok (.putfield 9, 3) := by decide +kernel
theorem dX2_draw_25 : decode cX2_draw 25 = .ok (.iload_n 1, 1) := by decide +kernel
theorem dX2_draw_26 : decode cX2_draw 26 = .ok (.ireturn, 1) := by decide +kernel
def Pt_draw (x0 : Nat) (ν : Nm) : Option (Int32 × Nm) :=
  some ((gi ν x0 2), (si ν x0 2 ((((gi ν x0 2) * (569 : Int32)) + (439 : Int32)) - (((gi ν x0 2) * (569 : Int32)) + (439 : Int32)) / (30781 : Int32) * (30781 : Int32))))
set_option maxRecDepth 100000 in
set_option maxHeartbeats 4000000 in
theorem t_Pt_draw {g : GG} {d : Nat} (hd0 : 1 ≤ d) : ∀ (x0 : Nat) (ν : Nm) (r : (Int32 × Nm)), zk 333 x0 (1, 0) → Pt_draw x0 ν = some r → Z g d (0, 0) mX2_draw 333 0 0 0 [(0, .ref x0)] [] (zem ν) (zF g (some (.int r.1), zem r.2)) := by
  intro x0 ν r hq0 h
  unfold Pt_draw at h
  refine z_aload_n dX2_draw_0 0 rfl ?_
  refine y_getI dX2_draw_1 hq0 flRX2_9 ?_
  refine z_istore_n (M := mX2_draw) (lv2 := [(1, .int (gi ν x0 2)), (0, .ref x0)]) dX2_draw_4 (Nat.le_of_ble_eq_true rfl) rfl ?_
  refine z_aload_n dX2_draw_5 1 rfl ?_
  refine z_aload_n dX2_draw_6 1 rfl ?_
  refine y_getI dX2_draw_7 hq0 flRX2_9 ?_
  refine z_sipush (M := mX2_draw) (v := 569) dX2_draw_10 rfl ?_
  refine z_imul dX2_draw_13 ?_
  refine z_sipush (M := mX2_draw) (v := 439) dX2_draw_14 rfl ?_
  refine z_iadd dX2_draw_17 ?_
  refine z_sipush (M := mX2_draw) (v := 30781) dX2_draw_18 rfl ?_
  refine z_irem dX2_draw_21 (by decide) ?_
  refine y_putI dX2_draw_22 hq0 flRX2_9 ⟨rfl, rfl⟩ ?_
  refine z_iload_n dX2_draw_25 0 rfl ?_
  cases h
  exact z_iret dX2_draw_26 rfl
theorem ct_Pt_draw {g : GG} {d : Nat} {x0 : Nat} {ν : Nm} {r : (Int32 × Nm)} (hd0 : 1 ≤ d) (hq0 : zk 333 x0 (1, 0)) (h : Pt_draw x0 ν = some r) : Ct g d mX2_draw [.ref x0] (zem ν) (some (.int r.1), zem r.2) := y_entry in_X2_draw (Nat.le_of_ble_eq_true rfl) rfl (t_Pt_draw hd0 x0 ν r hq0 h)
-- FuseMinutes$Pit.endsBurning()I
theorem dX2_endsBurning_0 : decode cX2_endsBurning 0 = .ok (.iconst 0, 1) := by decide +kernel
theorem dX2_endsBurning_1 : decode cX2_endsBurning 1 = .ok (.istore_n 1, 1) := by decide +kernel
theorem dX2_endsBurning_2 : decode cX2_endsBurning 2 = .ok (.iconst 0, 1) := by decide +kernel
theorem dX2_endsBurning_3 : decode cX2_endsBurning 3 = .ok (.istore_n 2, 1) := by decide +kernel
theorem dX2_endsBurning_4 : decode cX2_endsBurning 4 = .ok (.iload_n 2, 1) := by decide +kernel
theorem dX2_endsBurning_5 : decode cX2_endsBurning 5 = .ok (.iconst 4, 1) := by decide +kernel
theorem dX2_endsBurning_6 : decode cX2_endsBurning 6 = .ok (.if_icmp .ge 29, 3) := by decide +kernel
theorem dX2_endsBurning_9 : decode cX2_endsBurning 9 = .ok (.iload_n 1, 1) := by decide +kernel
theorem dX2_endsBurning_10 : decode cX2_endsBurning 10 = .ok (.aload_n 0, 1) := by decide +kernel
theorem dX2_endsBurning_11 : decode cX2_endsBurning 11 = .ok (.getfield 19, 3) := by decide +kernel
theorem dX2_endsBurning_14 : decode cX2_endsBurning 14 = .ok (.iload_n 2, 1) := by decide +kernel
theorem dX2_endsBurning_15 : decode cX2_endsBurning 15 = .ok (.iaload, 1) := by decide +kernel
theorem dX2_endsBurning_16 : decode cX2_endsBurning 16 = .ok (.iconst 1, 1) := by decide +kernel
theorem dX2_endsBurning_17 : decode cX2_endsBurning 17 = .ok (.iand, 1) := by decide +kernel
theorem dX2_endsBurning_18 : decode cX2_endsBurning 18 = .ok (.aload_n 0, 1) := by decide +kernel
theorem dX2_endsBurning_19 : decode cX2_endsBurning 19 = .ok (.getfield 19, 3) := by decide +kernel
theorem dX2_endsBurning_22 : decode cX2_endsBurning 22 = .ok (.iload_n 2, 1) := by decide +kernel
theorem dX2_endsBurning_23 : decode cX2_endsBurning 23 = .ok (.iaload, 1) := by decide +kernel
theorem dX2_endsBurning_24 : decode cX2_endsBurning 24 = .ok (.iconst 1, 1) := by decide +kernel
theorem dX2_endsBurning_25 : decode cX2_endsBurning 25 = .ok (.ishr, 1) := by decide +kernel
theorem dX2_endsBurning_26 : decode cX2_endsBurning 26 = .ok (.iadd, 1) := by decide +kernel
theorem dX2_endsBurning_27 : decode cX2_endsBurning 27 = .ok (.iadd, 1) := by decide +kernel
theorem dX2_endsBurning_28 : decode cX2_endsBurning 28 = .ok (.istore_n 1, 1) := by decide +kernel
theorem dX2_endsBurning_29 : decode cX2_endsBurning 29 = .ok (.iinc 2 1, 3) := by decide +kernel
theorem dX2_endsBurning_32 : decode cX2_endsBurning 32 = .ok (.goto (-28), 3) := by decide +kernel
theorem dX2_endsBurning_35 : decode cX2_endsBurning 35 = .ok (.iload_n 1, 1) := by decide +kernel
theorem dX2_endsBurning_36 : decode cX2_endsBurning 36 = .ok (.ireturn, 1) := by decide +kernel
def Pt_endsBurning_4 (ν : Nm) : Nat → Nat → Int32 → Int32 → Option Int32
  | 0, _, _, _ => none
  | f + 1, x0, x1, x2 =>
    (if (4 : Int32) ≤ x2 then
      some x1
    else
      if inb x2 4 then
      if inb x2 4 then
      (Pt_endsBurning_4 ν f) x0 (x1 + (((gi ν (x0 + 2) x2.toNatClampNeg) &&& (1 : Int32)) + ((gi ν (x0 + 2) x2.toNatClampNeg) >>> ((1 : Int32) &&& 31)))) (x2 + (1 : Int32))
      else none
      else none)
set_option maxRecDepth 100000 in
set_option maxHeartbeats 4000000 in
theorem t_Pt_endsBurning_4 {g : GG} {d : Nat} {ν : Nm} (hd0 : 1 ≤ d) : ∀ (f : Nat), ∀ (x0 : Nat) (x1 : Int32) (x2 : Int32) (r : Int32), zk 333 x0 (1, 0) → Pt_endsBurning_4 ν f x0 x1 x2 = some r → Z g d (0, 0) mX2_endsBurning 333 0 0 4 [(0, .ref x0), (1, .int x1), (2, .int x2)] [] (zem ν) (zF g (some (.int r), zem ν)) := by
  intro f
  induction f with
  | zero =>
    intro x0 x1 x2 r hq0 h
    cases h
  | succ f ih =>
    intro x0 x1 x2 r hq0 h
    rw [Pt_endsBurning_4] at h
    refine z_iload_n dX2_endsBurning_4 2 rfl ?_
    refine z_iconst (M := mX2_endsBurning) (v := 4) dX2_endsBurning_5 rfl ?_
    refine z_icmp_ge 35 dX2_endsBurning_6 rfl (fun hc1 => ?_) (fun hc1 => ?_)
    · replace h := oT hc1 h
      refine z_iload_n dX2_endsBurning_35 1 rfl ?_
      cases h
      exact z_iret dX2_endsBurning_36 rfl
    · replace h := oF hc1 h
      refine z_iload_n dX2_endsBurning_9 1 rfl ?_
      refine z_aload_n dX2_endsBurning_10 0 rfl ?_
      refine y_getR (M := mX2_endsBurning) (r := (x0 + 2)) dX2_endsBurning_11 hq0 flRX2_19 fr_1_5.1 (fr_1_5.2 _) ?_
      refine z_iload_n dX2_endsBurning_14 2 rfl ?_
      obtain ⟨hi2, h⟩ := oif h
      refine y_iald (M := mX2_endsBurning) (jj := x2.toNatClampNeg) dX2_endsBurning_15 (zko_1_5 hq0) hi2 rfl ?_
      refine z_iconst (M := mX2_endsBurning) (v := 1) dX2_endsBurning_16 rfl ?_
      refine z_iand dX2_endsBurning_17 ?_
      refine z_aload_n dX2_endsBurning_18 0 rfl ?_
      refine y_getR (M := mX2_endsBurning) (r := (x0 + 2)) dX2_endsBurning_19 hq0 flRX2_19 fr_1_5.1 (fr_1_5.2 _) ?_
      refine z_iload_n dX2_endsBurning_22 2 rfl ?_
      obtain ⟨hi3, h⟩ := oif h
      refine y_iald (M := mX2_endsBurning) (jj := x2.toNatClampNeg) dX2_endsBurning_23 (zko_1_5 hq0) hi3 rfl ?_
      refine z_iconst (M := mX2_endsBurning) (v := 1) dX2_endsBurning_24 rfl ?_
      refine z_ishr dX2_endsBurning_25 ?_
      refine z_iadd dX2_endsBurning_26 ?_
      refine z_iadd dX2_endsBurning_27 ?_
      refine z_istore_n (M := mX2_endsBurning) (lv2 := [(1, .int (x1 + (((gi ν (x0 + 2) x2.toNatClampNeg) &&& (1 : Int32)) + ((gi ν (x0 + 2) x2.toNatClampNeg) >>> ((1 : Int32) &&& 31))))), (0, .ref x0), (2, .int x2)]) dX2_endsBurning_28 (Nat.le_of_ble_eq_true rfl) rfl ?_
      refine z_iinc (M := mX2_endsBurning) (v := (x2 + (1 : Int32))) (lv2 := [(2, .int (x2 + (1 : Int32))), (1, .int (x1 + (((gi ν (x0 + 2) x2.toNatClampNeg) &&& (1 : Int32)) + ((gi ν (x0 + 2) x2.toNatClampNeg) >>> ((1 : Int32) &&& 31))))), (0, .ref x0)]) dX2_endsBurning_29 2 rfl rfl (Nat.le_of_ble_eq_true rfl) rfl ?_
      refine z_goto 4 dX2_endsBurning_32 rfl ?_
      refine z_lv (lv2 := [(0, .ref x0), (1, .int (x1 + (((gi ν (x0 + 2) x2.toNatClampNeg) &&& (1 : Int32)) + ((gi ν (x0 + 2) x2.toNatClampNeg) >>> ((1 : Int32) &&& 31))))), (2, .int (x2 + (1 : Int32)))]) [2, 1, 0] rfl ?_
      exact ih x0 (x1 + (((gi ν (x0 + 2) x2.toNatClampNeg) &&& (1 : Int32)) + ((gi ν (x0 + 2) x2.toNatClampNeg) >>> ((1 : Int32) &&& 31)))) (x2 + (1 : Int32)) _ hq0 h
def Pt_endsBurning (ν : Nm) (x0 : Nat) : Option Int32 :=
  Pt_endsBurning_4 ν FU x0 (0 : Int32) (0 : Int32)
set_option maxRecDepth 100000 in
set_option maxHeartbeats 4000000 in
theorem t_Pt_endsBurning {g : GG} {d : Nat} {ν : Nm} (hd0 : 1 ≤ d) : ∀ (x0 : Nat) (r : Int32), zk 333 x0 (1, 0) → Pt_endsBurning ν x0 = some r → Z g d (0, 0) mX2_endsBurning 333 0 0 0 [(0, .ref x0)] [] (zem ν) (zF g (some (.int r), zem ν)) := by
  intro x0 r hq0 h
  unfold Pt_endsBurning at h
  refine z_iconst (M := mX2_endsBurning) (v := 0) dX2_endsBurning_0 rfl ?_
  refine z_istore_n (M := mX2_endsBurning) (lv2 := [(1, .int (0 : Int32)), (0, .ref x0)]) dX2_endsBurning_1 (Nat.le_of_ble_eq_true rfl) rfl ?_
  refine z_iconst (M := mX2_endsBurning) (v := 0) dX2_endsBurning_2 rfl ?_
  refine z_istore_n (M := mX2_endsBurning) (lv2 := [(2, .int (0 : Int32)), (1, .int (0 : Int32)), (0, .ref x0)]) dX2_endsBurning_3 (Nat.le_of_ble_eq_true rfl) rfl ?_
  refine z_lv (lv2 := [(0, .ref x0), (1, .int (0 : Int32)), (2, .int (0 : Int32))]) [2, 1, 0] rfl ?_
  exact t_Pt_endsBurning_4 hd0 FU x0 (0 : Int32) (0 : Int32) _ hq0 h
theorem ct_Pt_endsBurning {g : GG} {d : Nat} {x0 : Nat} {ν : Nm} {r : Int32} (hd0 : 1 ≤ d) (hq0 : zk 333 x0 (1, 0)) (h : Pt_endsBurning ν x0 = some r) : Ct g d mX2_endsBurning [.ref x0] (zem ν) (some (.int r), zem ν) := y_entry in_X2_endsBurning (Nat.le_of_ble_eq_true rfl) rfl (t_Pt_endsBurning hd0 x0 r hq0 h)
-- java/lang/Integer.bitCount(I)I
theorem dJ6_bitCount_0f7a4_0 : decode cJ6_bitCount_0f7a4 0 = .ok (.iload_n 0, 1) := by decide +kernel
theorem dJ6_bitCount_0f7a4_1 : decode cJ6_bitCount_0f7a4 1 = .ok (.iload_n 0, 1) := by decide +kernel
theorem dJ6_bitCount_0f7a4_2 : decode cJ6_bitCount_0f7a4 2 = .ok (.iconst 1, 1) := by decide +kernel
theorem dJ6_bitCount_0f7a4_3 : decode cJ6_bitCount_0f7a4 3 = .ok (.iushr, 1) := by decide +kernel
theorem dJ6_bitCount_0f7a4_4 : decode cJ6_bitCount_0f7a4 4 = .ok (.ldc_w 265, 3) := by decide +kernel
theorem dJ6_bitCount_0f7a4_7 : decode cJ6_bitCount_0f7a4 7 = .ok (.iand, 1) := by decide +kernel
theorem dJ6_bitCount_0f7a4_8 : decode cJ6_bitCount_0f7a4 8 = .ok (.isub, 1) := by decide +kernel
theorem dJ6_bitCount_0f7a4_9 : decode cJ6_bitCount_0f7a4 9 = .ok (.istore_n 0, 1) := by decide +kernel
theorem dJ6_bitCount_0f7a4_10 : decode cJ6_bitCount_0f7a4 10 = .ok (.iload_n 0, 1) := by decide +kernel
theorem dJ6_bitCount_0f7a4_11 : decode cJ6_bitCount_0f7a4 11 = .ok (.ldc_w 266, 3) := by decide +kernel
theorem dJ6_bitCount_0f7a4_14 : decode cJ6_bitCount_0f7a4 14 = .ok (.iand, 1) := by decide +kernel
theorem dJ6_bitCount_0f7a4_15 : decode cJ6_bitCount_0f7a4 15 = .ok (.iload_n 0, 1) := by decide +kernel
theorem dJ6_bitCount_0f7a4_16 : decode cJ6_bitCount_0f7a4 16 = .ok (.iconst 2, 1) := by decide +kernel
theorem dJ6_bitCount_0f7a4_17 : decode cJ6_bitCount_0f7a4 17 = .ok (.iushr, 1) := by decide +kernel
theorem dJ6_bitCount_0f7a4_18 : decode cJ6_bitCount_0f7a4 18 = .ok (.ldc_w 266, 3) := by decide +kernel
theorem dJ6_bitCount_0f7a4_21 : decode cJ6_bitCount_0f7a4 21 = .ok (.iand, 1) := by decide +kernel
theorem dJ6_bitCount_0f7a4_22 : decode cJ6_bitCount_0f7a4 22 = .ok (.iadd, 1) := by decide +kernel
theorem dJ6_bitCount_0f7a4_23 : decode cJ6_bitCount_0f7a4 23 = .ok (.istore_n 0, 1) := by decide +kernel
theorem dJ6_bitCount_0f7a4_24 : decode cJ6_bitCount_0f7a4 24 = .ok (.iload_n 0, 1) := by decide +kernel
theorem dJ6_bitCount_0f7a4_25 : decode cJ6_bitCount_0f7a4 25 = .ok (.iload_n 0, 1) := by decide +kernel
theorem dJ6_bitCount_0f7a4_26 : decode cJ6_bitCount_0f7a4 26 = .ok (.iconst 4, 1) := by decide +kernel
theorem dJ6_bitCount_0f7a4_27 : decode cJ6_bitCount_0f7a4 27 = .ok (.iushr, 1) := by decide +kernel
theorem dJ6_bitCount_0f7a4_28 : decode cJ6_bitCount_0f7a4 28 = .ok (.iadd, 1) := by decide +kernel
theorem dJ6_bitCount_0f7a4_29 : decode cJ6_bitCount_0f7a4 29 = .ok (.ldc_w 267, 3) := by decide +kernel
theorem dJ6_bitCount_0f7a4_32 : decode cJ6_bitCount_0f7a4 32 = .ok (.iand, 1) := by decide +kernel
theorem dJ6_bitCount_0f7a4_33 : decode cJ6_bitCount_0f7a4 33 = .ok (.istore_n 0, 1) := by decide +kernel
theorem dJ6_bitCount_0f7a4_34 : decode cJ6_bitCount_0f7a4 34 = .ok (.iload_n 0, 1) := by decide +kernel
theorem dJ6_bitCount_0f7a4_35 : decode cJ6_bitCount_0f7a4 35 = .ok (.iload_n 0, 1) := by decide +kernel
theorem dJ6_bitCount_0f7a4_36 : decode cJ6_bitCount_0f7a4 36 = .ok (.bipush 8, 2) := by decide +kernel
theorem dJ6_bitCount_0f7a4_38 : decode cJ6_bitCount_0f7a4 38 = .ok (.iushr, 1) := by decide +kernel
theorem dJ6_bitCount_0f7a4_39 : decode cJ6_bitCount_0f7a4 39 = .ok (.iadd, 1) := by decide +kernel
theorem dJ6_bitCount_0f7a4_40 : decode cJ6_bitCount_0f7a4 40 = .ok (.istore_n 0, 1) := by decide +kernel
theorem dJ6_bitCount_0f7a4_41 : decode cJ6_bitCount_0f7a4 41 = .ok (.iload_n 0, 1) := by decide +kernel
theorem dJ6_bitCount_0f7a4_42 : decode cJ6_bitCount_0f7a4 42 = .ok (.iload_n 0, 1) := by decide +kernel
theorem dJ6_bitCount_0f7a4_43 : decode cJ6_bitCount_0f7a4 43 = .ok (.bipush 16, 2) := by decide +kernel
theorem dJ6_bitCount_0f7a4_45 : decode cJ6_bitCount_0f7a4 45 = .ok (.iushr, 1) := by decide +kernel
theorem dJ6_bitCount_0f7a4_46 : decode cJ6_bitCount_0f7a4 46 = .ok (.iadd, 1) := by decide +kernel
theorem dJ6_bitCount_0f7a4_47 : decode cJ6_bitCount_0f7a4 47 = .ok (.istore_n 0, 1) := by decide +kernel
theorem dJ6_bitCount_0f7a4_48 : decode cJ6_bitCount_0f7a4 48 = .ok (.iload_n 0, 1) := by decide +kernel
theorem dJ6_bitCount_0f7a4_49 : decode cJ6_bitCount_0f7a4 49 = .ok (.bipush 63, 2) := by decide +kernel
theorem dJ6_bitCount_0f7a4_51 : decode cJ6_bitCount_0f7a4 51 = .ok (.iand, 1) := by decide +kernel
theorem dJ6_bitCount_0f7a4_52 : decode cJ6_bitCount_0f7a4 52 = .ok (.ireturn, 1) := by decide +kernel
def In_bitCount_41 (x0 : Int32) : Option Int32 :=
  some ((x0 + (x0.toUInt32 >>> ((16 : Int32).toUInt32 &&& Int32.toUInt32 31)).toInt32) &&& (63 : Int32))
set_option maxRecDepth 100000 in
set_option maxHeartbeats 4000000 in
theorem t_In_bitCount_41 {g : GG} {d : Nat} {μ : Mm} (hd0 : 1 ≤ d) : ∀ (x0 : Int32) (r : Int32), In_bitCount_41 x0 = some r → Z g d (0, 0) mJ6_bitCount_0f7a4 333 0 0 41 [(0, .int x0)] [] μ (zF g (some (.int r), μ)) := by
  intro x0 r h
  unfold In_bitCount_41 at h
  refine z_iload_n dJ6_bitCount_0f7a4_41 0 rfl ?_
  refine z_iload_n dJ6_bitCount_0f7a4_42 0 rfl ?_
  refine z_bipush (M := mJ6_bitCount_0f7a4) (v := 16) dJ6_bitCount_0f7a4_43 rfl ?_
  refine z_iushr dJ6_bitCount_0f7a4_45 ?_
  refine z_iadd dJ6_bitCount_0f7a4_46 ?_
  refine z_istore_n (M := mJ6_bitCount_0f7a4) (lv2 := [(0, .int (x0 + (x0.toUInt32 >>> ((16 : Int32).toUInt32 &&& Int32.toUInt32 31)).toInt32))]) dJ6_bitCount_0f7a4_47 (Nat.le_of_ble_eq_true rfl) rfl ?_
  refine z_iload_n dJ6_bitCount_0f7a4_48 0 rfl ?_
  refine z_bipush (M := mJ6_bitCount_0f7a4) (v := 63) dJ6_bitCount_0f7a4_49 rfl ?_
  refine z_iand dJ6_bitCount_0f7a4_51 ?_
  cases h
  exact z_iret dJ6_bitCount_0f7a4_52 rfl
def In_bitCount_24 (x0 : Int32) : Option Int32 :=
  In_bitCount_41 (((x0 + (x0.toUInt32 >>> ((4 : Int32).toUInt32 &&& Int32.toUInt32 31)).toInt32) &&& (252645135 : Int32)) + (((x0 + (x0.toUInt32 >>> ((4 : Int32).toUInt32 &&& Int32.toUInt32 31)).toInt32) &&& (252645135 : Int32)).toUInt32 >>> ((8 : Int32).toUInt32 &&& Int32.toUInt32 31)).toInt32)
set_option maxRecDepth 100000 in
set_option maxHeartbeats 4000000 in
theorem t_In_bitCount_24 {g : GG} {d : Nat} {μ : Mm} (hd0 : 1 ≤ d) : ∀ (x0 : Int32) (r : Int32), In_bitCount_24 x0 = some r → Z g d (0, 0) mJ6_bitCount_0f7a4 333 0 0 24 [(0, .int x0)] [] μ (zF g (some (.int r), μ)) := by
  intro x0 r h
  unfold In_bitCount_24 at h
  refine z_iload_n dJ6_bitCount_0f7a4_24 0 rfl ?_
  refine z_iload_n dJ6_bitCount_0f7a4_25 0 rfl ?_
  refine z_iconst (M := mJ6_bitCount_0f7a4) (v := 4) dJ6_bitCount_0f7a4_26 rfl ?_
  refine z_iushr dJ6_bitCount_0f7a4_27 ?_
  refine z_iadd dJ6_bitCount_0f7a4_28 ?_
  refine z_ldcw dJ6_bitCount_0f7a4_29 csRJ6_267 ?_
  refine z_iand dJ6_bitCount_0f7a4_32 ?_
  refine z_istore_n (M := mJ6_bitCount_0f7a4) (lv2 := [(0, .int ((x0 + (x0.toUInt32 >>> ((4 : Int32).toUInt32 &&& Int32.toUInt32 31)).toInt32) &&& (252645135 : Int32)))]) dJ6_bitCount_0f7a4_33 (Nat.le_of_ble_eq_true rfl) rfl ?_
  refine z_iload_n dJ6_bitCount_0f7a4_34 0 rfl ?_
  refine z_iload_n dJ6_bitCount_0f7a4_35 0 rfl ?_
  refine z_bipush (M := mJ6_bitCount_0f7a4) (v := 8) dJ6_bitCount_0f7a4_36 rfl ?_
  refine z_iushr dJ6_bitCount_0f7a4_38 ?_
  refine z_iadd dJ6_bitCount_0f7a4_39 ?_
  refine z_istore_n (M := mJ6_bitCount_0f7a4) (lv2 := [(0, .int (((x0 + (x0.toUInt32 >>> ((4 : Int32).toUInt32 &&& Int32.toUInt32 31)).toInt32) &&& (252645135 : Int32)) + (((x0 + (x0.toUInt32 >>> ((4 : Int32).toUInt32 &&& Int32.toUInt32 31)).toInt32) &&& (252645135 : Int32)).toUInt32 >>> ((8 : Int32).toUInt32 &&& Int32.toUInt32 31)).toInt32))]) dJ6_bitCount_0f7a4_40 (Nat.le_of_ble_eq_true rfl) rfl ?_
  exact t_In_bitCount_41 hd0  (((x0 + (x0.toUInt32 >>> ((4 : Int32).toUInt32 &&& Int32.toUInt32 31)).toInt32) &&& (252645135 : Int32)) + (((x0 + (x0.toUInt32 >>> ((4 : Int32).toUInt32 &&& Int32.toUInt32 31)).toInt32) &&& (252645135 : Int32)).toUInt32 >>> ((8 : Int32).toUInt32 &&& Int32.toUInt32 31)).toInt32) _ h
def In_bitCount (x0 : Int32) : Option Int32 :=
  In_bitCount_24 (((x0 - ((x0.toUInt32 >>> ((1 : Int32).toUInt32 &&& Int32.toUInt32 31)).toInt32 &&& (1431655765 : Int32))) &&& (858993459 : Int32)) + (((x0 - ((x0.toUInt32 >>> ((1 : Int32).toUInt32 &&& Int32.toUInt32 31)).toInt32 &&& (1431655765 : Int32))).toUInt32 >>> ((2 : Int32).toUInt32 &&& Int32.toUInt32 31)).toInt32 &&& (858993459 : Int32)))
set_option maxRecDepth 100000 in
set_option maxHeartbeats 4000000 in
theorem t_In_bitCount {g : GG} {d : Nat} {μ : Mm} (hd0 : 1 ≤ d) : ∀ (x0 : Int32) (r : Int32), In_bitCount x0 = some r → Z g d (0, 0) mJ6_bitCount_0f7a4 333 0 0 0 [(0, .int x0)] [] μ (zF g (some (.int r), μ)) := by
  intro x0 r h
  unfold In_bitCount at h
  refine z_iload_n dJ6_bitCount_0f7a4_0 0 rfl ?_
  refine z_iload_n dJ6_bitCount_0f7a4_1 0 rfl ?_
  refine z_iconst (M := mJ6_bitCount_0f7a4) (v := 1) dJ6_bitCount_0f7a4_2 rfl ?_
  refine z_iushr dJ6_bitCount_0f7a4_3 ?_
  refine z_ldcw dJ6_bitCount_0f7a4_4 csRJ6_265 ?_
  refine z_iand dJ6_bitCount_0f7a4_7 ?_
  refine z_isub dJ6_bitCount_0f7a4_8 ?_
  refine z_istore_n (M := mJ6_bitCount_0f7a4) (lv2 := [(0, .int (x0 - ((x0.toUInt32 >>> ((1 : Int32).toUInt32 &&& Int32.toUInt32 31)).toInt32 &&& (1431655765 : Int32))))]) dJ6_bitCount_0f7a4_9 (Nat.le_of_ble_eq_true rfl) rfl ?_
  refine z_iload_n dJ6_bitCount_0f7a4_10 0 rfl ?_
  refine z_ldcw dJ6_bitCount_0f7a4_11 csRJ6_266 ?_
  refine z_iand dJ6_bitCount_0f7a4_14 ?_
  refine z_iload_n dJ6_bitCount_0f7a4_15 0 rfl ?_
  refine z_iconst (M := mJ6_bitCount_0f7a4) (v := 2) dJ6_bitCount_0f7a4_16 rfl ?_
  refine z_iushr dJ6_bitCount_0f7a4_17 ?_
  refine z_ldcw dJ6_bitCount_0f7a4_18 csRJ6_266 ?_
  refine z_iand dJ6_bitCount_0f7a4_21 ?_
  refine z_iadd dJ6_bitCount_0f7a4_22 ?_
  refine z_istore_n (M := mJ6_bitCount_0f7a4) (lv2 := [(0, .int (((x0 - ((x0.toUInt32 >>> ((1 : Int32).toUInt32 &&& Int32.toUInt32 31)).toInt32 &&& (1431655765 : Int32))) &&& (858993459 : Int32)) + (((x0 - ((x0.toUInt32 >>> ((1 : Int32).toUInt32 &&& Int32.toUInt32 31)).toInt32 &&& (1431655765 : Int32))).toUInt32 >>> ((2 : Int32).toUInt32 &&& Int32.toUInt32 31)).toInt32 &&& (858993459 : Int32))))]) dJ6_bitCount_0f7a4_23 (Nat.le_of_ble_eq_true rfl) rfl ?_
  exact t_In_bitCount_24 hd0  (((x0 - ((x0.toUInt32 >>> ((1 : Int32).toUInt32 &&& Int32.toUInt32 31)).toInt32 &&& (1431655765 : Int32))) &&& (858993459 : Int32)) + (((x0 - ((x0.toUInt32 >>> ((1 : Int32).toUInt32 &&& Int32.toUInt32 31)).toInt32 &&& (1431655765 : Int32))).toUInt32 >>> ((2 : Int32).toUInt32 &&& Int32.toUInt32 31)).toInt32 &&& (858993459 : Int32))) _ h
theorem ct_In_bitCount {g : GG} {d : Nat} {x0 : Int32} {μ : Mm} {r : Int32} (hd0 : 1 ≤ d)  (h : In_bitCount x0 = some r) : Ct g d mJ6_bitCount_0f7a4 [.int x0] μ (some (.int r), μ) := y_entry in_J6_bitCount_0f7a4 (Nat.le_of_ble_eq_true rfl) rfl (t_In_bitCount hd0 x0 r h)
-- FuseMinutes$Pit.sparksToOut(I)I
theorem dX2_sparksToOut_0 : decode cX2_sparksToOut 0 = .ok (.aload_n 0, 1) := by decide +kernel
theorem dX2_sparksToOut_1 : decode cX2_sparksToOut 1 = .ok (.getfield 19, 3) := by decide +kernel
theorem dX2_sparksToOut_4 : decode cX2_sparksToOut 4 = .ok (.iload_n 1, 1) := by decide +kernel
theorem dX2_sparksToOut_5 : decode cX2_sparksToOut 5 = .ok (.iaload, 1) := by decide +kernel
theorem dX2_sparksToOut_6 : decode cX2_sparksToOut 6 = .ok (.invokestatic 55, 3) := by decide +kernel
theorem dX2_sparksToOut_9 : decode cX2_sparksToOut 9 = .ok (.istore_n 2, 1) := by decide +kernel
theorem dX2_sparksToOut_10 : decode cX2_sparksToOut 10 = .ok (.iload_n 2, 1) := by decide +kernel
theorem dX2_sparksToOut_11 : decode cX2_sparksToOut 11 = .ok (.ifCond .ne 7, 3) := by decide +kernel
theorem dX2_sparksToOut_14 : decode cX2_sparksToOut 14 = .ok (.iconst (-1), 1) := by decide +kernel
theorem dX2_sparksToOut_15 : decode cX2_sparksToOut 15 = .ok (.goto 15, 3) := by decide +kernel
theorem dX2_sparksToOut_18 : decode cX2_sparksToOut 18 = .ok (.aload_n 0, 1) := by decide +kernel
theorem dX2_sparksToOut_19 : decode cX2_sparksToOut 19 = .ok (.getfield 15, 3) := by decide +kernel
theorem dX2_sparksToOut_22 : decode cX2_sparksToOut 22 = .ok (.iload_n 1, 1) := by decide +kernel
theorem dX2_sparksToOut_23 : decode cX2_sparksToOut 23 = .ok (.iaload, 1) := by decide +kernel
theorem dX2_sparksToOut_24 : decode cX2_sparksToOut 24 = .ok (.iload_n 2, 1) := by decide +kernel
theorem dX2_sparksToOut_25 : decode cX2_sparksToOut 25 = .ok (.iadd, 1) := by decide +kernel
theorem dX2_sparksToOut_26 : decode cX2_sparksToOut 26 = .ok (.iconst 1, 1) := by decide +kernel
theorem dX2_sparksToOut_27 : decode cX2_sparksToOut 27 = .ok (.isub, 1) := by decide +kernel
theorem dX2_sparksToOut_28 : decode cX2_sparksToOut 28 = .ok (.iload_n 2, 1) := by decide +kernel
theorem dX2_sparksToOut_29 : decode cX2_sparksToOut 29 = .ok (.idiv, 1) := by decide +kernel
theorem dX2_sparksToOut_30 : decode cX2_sparksToOut 30 = .ok (.ireturn, 1) := by decide +kernel
def Pt_sparksToOut (ν : Nm) (x0 : Nat) (x1 : Int32) : Option Int32 :=
  if inb x1 4 then
  (In_bitCount (gi ν (x0 + 2) x1.toNatClampNeg)).bind fun v2 =>
  (if ¬ v2 = 0 then
    if inb x1 4 then
    if v2 = 0 then none else
    some ((((gi ν (x0 + 1) x1.toNatClampNeg) + v2) - (1 : Int32)) / v2)
    else none
  else
    some (-1 : Int32))
  else none
set_option maxRecDepth 100000 in
set_option maxHeartbeats 4000000 in
theorem t_Pt_sparksToOut {g : GG} {d : Nat} {ν : Nm} (hd0 : 2 ≤ d) : ∀ (x0 : Nat) (x1 : Int32) (r : Int32), zk 333 x0 (1, 0) → Pt_sparksToOut ν x0 x1 = some r → Z g d (0, 0) mX2_sparksToOut 333 0 0 0 [(0, .ref x0), (1, .int x1)] [] (zem ν) (zF g (some (.int r), zem ν)) := by
  intro x0 x1 r hq0 h
  unfold Pt_sparksToOut at h
  refine z_aload_n dX2_sparksToOut_0 0 rfl ?_
  refine y_getR (M := mX2_sparksToOut) (r := (x0 + 2)) dX2_sparksToOut_1 hq0 flRX2_19 fr_1_5.1 (fr_1_5.2 _) ?_
  refine z_iload_n dX2_sparksToOut_4 1 rfl ?_
  obtain ⟨hi1, h⟩ := oif h
  refine y_iald (M := mX2_sparksToOut) (jj := x1.toNatClampNeg) dX2_sparksToOut_5 (zko_1_5 hq0) hi1 rfl ?_
  obtain ⟨v2, he2, h⟩ := obind h
  refine y_Si (M := mX2_sparksToOut) (Y := mJ6_bitCount_0f7a4) (d2 := d - 1) (As := [.int (gi ν (x0 + 2) x1.toNatClampNeg)]) (st := []) dX2_sparksToOut_6 mlRX2_55 cv_J6_bitCount_0f7a4 (ct_In_bitCount (dle (Nat.le_of_ble_eq_true rfl) hd0) he2) (dps (Nat.le_of_ble_eq_true rfl) hd0) rfl rfl (Nat.le_of_ble_eq_true rfl) ?_
  refine z_istore_n (M := mX2_sparksToOut) (lv2 := [(2, .int v2), (0, .ref x0), (1, .int x1)]) dX2_sparksToOut_9 (Nat.le_of_ble_eq_true rfl) rfl ?_
  refine z_iload_n dX2_sparksToOut_10 0 rfl ?_
  refine z_if_ne 18 dX2_sparksToOut_11 rfl (fun hc3 => ?_) (fun hc3 => ?_)
  · replace h := oT hc3 h
    refine z_aload_n dX2_sparksToOut_18 1 rfl ?_
    refine y_getR (M := mX2_sparksToOut) (r := (x0 + 1)) dX2_sparksToOut_19 hq0 flRX2_15 fr_1_4.1 (fr_1_4.2 _) ?_
    refine z_iload_n dX2_sparksToOut_22 2 rfl ?_
    obtain ⟨hi4, h⟩ := oif h
    refine y_iald (M := mX2_sparksToOut) (jj := x1.toNatClampNeg) dX2_sparksToOut_23 (zko_1_4 hq0) hi4 rfl ?_
    refine z_iload_n dX2_sparksToOut_24 0 rfl ?_
    refine z_iadd dX2_sparksToOut_25 ?_
    refine z_iconst (M := mX2_sparksToOut) (v := 1) dX2_sparksToOut_26 rfl ?_
    refine z_isub dX2_sparksToOut_27 ?_
    refine z_iload_n dX2_sparksToOut_28 0 rfl ?_
    obtain ⟨hz5, h⟩ := oifn h
    refine z_idiv dX2_sparksToOut_29 hz5 ?_
    cases h
    exact z_iret dX2_sparksToOut_30 rfl
  · replace h := oFn hc3 h
    refine z_iconst (M := mX2_sparksToOut) (v := -1) dX2_sparksToOut_14 rfl ?_
    refine z_goto 30 dX2_sparksToOut_15 rfl ?_
    cases h
    exact z_iret dX2_sparksToOut_30 rfl
theorem ct_Pt_sparksToOut {g : GG} {d : Nat} {x0 : Nat} {x1 : Int32} {ν : Nm} {r : Int32} (hd0 : 2 ≤ d) (hq0 : zk 333 x0 (1, 0)) (h : Pt_sparksToOut ν x0 x1 = some r) : Ct g d mX2_sparksToOut [.ref x0, .int x1] (zem ν) (some (.int r), zem ν) := y_entry in_X2_sparksToOut (Nat.le_of_ble_eq_true rfl) rfl (t_Pt_sparksToOut hd0 x0 x1 r hq0 h)
-- FuseMinutes$Pit.sparksToNextOut()I
theorem dX2_sparksToNextOut_0 : decode cX2_sparksToNextOut 0 = .ok (.iconst (-1), 1) := by decide +kernel
theorem dX2_sparksToNextOut_1 : decode cX2_sparksToNextOut 1 = .ok (.istore_n 1, 1) := by decide +kernel
theorem dX2_sparksToNextOut_2 : decode cX2_sparksToNextOut 2 = .ok (.iconst 0, 1) := by decide +kernel
theorem dX2_sparksToNextOut_3 : decode cX2_sparksToNextOut 3 = .ok (.istore_n 2, 1) := by decide +kernel
theorem dX2_sparksToNextOut_4 : decode cX2_sparksToNextOut 4 = .ok (.iload_n 2, 1) := by decide +kernel
theorem dX2_sparksToNextOut_5 : decode cX2_sparksToNextOut 5 = .ok (.iconst 4, 1) := by decide +kernel
theorem dX2_sparksToNextOut_6 : decode cX2_sparksToNextOut 6 = .ok (.if_icmp .ge 32, 3) := by decide +kernel
theorem dX2_sparksToNextOut_9 : decode cX2_sparksToNextOut 9 = .ok (.aload_n 0, 1) := by decide +kernel
theorem dX2_sparksToNextOut_10 : decode cX2_sparksToNextOut 10 = .ok (.iload_n 2, 1) := by decide +kernel
theorem dX2_sparksToNextOut_11 : decode cX2_sparksToNextOut 11 = .ok (.invokevirtual 61, 3) := by decide +kernel
theorem dX2_sparksToNextOut_14 : decode cX2_sparksToNextOut 14 = .ok (.istore_n 3, 1) := by decide +kernel
theorem dX2_sparksToNextOut_15 : decode cX2_sparksToNextOut 15 = .ok (.iload_n 3, 1) := by decide +kernel
theorem dX2_sparksToNextOut_16 : decode cX2_sparksToNextOut 16 = .ok (.iconst (-1), 1) := by decide +kernel
theorem dX2_sparksToNextOut_17 : decode cX2_sparksToNextOut 17 = .ok (.if_icmp .eq 15, 3) := by decide +kernel
theorem dX2_sparksToNextOut_20 : decode cX2_sparksToNextOut 20 = .ok (.iload_n 1, 1) := by decide +kernel
theorem dX2_sparksToNextOut_21 : decode cX2_sparksToNextOut 21 = .ok (.iconst (-1), 1) := by decide +kernel
theorem dX2_sparksToNextOut_22 : decode cX2_sparksToNextOut 22 = .ok (.if_icmp .eq 8, 3) := by decide +kernel
theorem dX2_sparksToNextOut_25 : decode cX2_sparksToNextOut 25 = .ok (.iload_n 3, 1) := by decide +kernel
theorem dX2_sparksToNextOut_26 : decode cX2_sparksToNextOut 26 = .ok (.iload_n 1, 1) := by decide +kernel
theorem dX2_sparksToNextOut_27 : decode cX2_sparksToNextOut 27 = .ok (.if_icmp .ge 5, 3) := by decide +kernel
theorem dX2_sparksToNextOut_30 : decode cX2_sparksToNextOut 30 = .ok (.iload_n 3, 1) := by decide +kernel
theorem dX2_sparksToNextOut_31 : decode cX2_sparksToNextOut 31 = .ok (.istore_n 1, 1) := by decide +kernel
theorem dX2_sparksToNextOut_32 : decode cX2_sparksToNextOut 32 = .ok (.iinc 2 1, 3) := by decide +kernel
theorem dX2_sparksToNextOut_35 : decode cX2_sparksToNextOut 35 = .ok (.goto (-31), 3) := by decide +kernel
theorem dX2_sparksToNextOut_38 : decode cX2_sparksToNextOut 38 = .ok (.iload_n 1, 1) := by decide +kernel
theorem dX2_sparksToNextOut_39 : decode cX2_sparksToNextOut 39 = .ok (.ireturn, 1) := by decide +kernel
def Pt_sparksToNextOut_32 (ν : Nm) (k4 : Nat → Int32 → Int32 → Option Int32) (x0 : Nat) (x1 : Int32) (x2 : Int32) : Option Int32 :=
  k4 x0 x1 (x2 + (1 : Int32))
set_option maxRecDepth 100000 in
set_option maxHeartbeats 4000000 in
theorem t_Pt_sparksToNextOut_32 {g : GG} {d : Nat} {ν : Nm} (hd0 : 3 ≤ d) {k4 : Nat → Int32 → Int32 → Option Int32} (hk4 : ∀ (x0 : Nat) (x1 : Int32) (x2 : Int32) (r : Int32), zk 333 x0 (1, 0) → k4 x0 x1 x2 = some r → Z g d (0, 0) mX2_sparksToNextOut 333 0 0 4 [(0, .ref x0), (1, .int x1), (2, .int x2)] [] (zem ν) (zF g (some (.int r), zem ν))) : ∀ (x0 : Nat) (x1 : Int32) (x2 : Int32) (r : Int32), zk 333 x0 (1, 0) → Pt_sparksToNextOut_32 ν k4 x0 x1 x2 = some r → Z g d (0, 0) mX2_sparksToNextOut 333 0 0 32 [(0, .ref x0), (1, .int x1), (2, .int x2)] [] (zem ν) (zF g (some (.int r), zem ν)) := by
  intro x0 x1 x2 r hq0 h
  unfold Pt_sparksToNextOut_32 at h
  refine z_iinc (M := mX2_sparksToNextOut) (v := (x2 + (1 : Int32))) (lv2 := [(2, .int (x2 + (1 : Int32))), (0, .ref x0), (1, .int x1)]) dX2_sparksToNextOut_32 2 rfl rfl (Nat.le_of_ble_eq_true rfl) rfl ?_
  refine z_goto 4 dX2_sparksToNextOut_35 rfl ?_
  refine z_lv (lv2 := [(0, .ref x0), (1, .int x1), (2, .int (x2 + (1 : Int32)))]) [1, 2, 0] rfl ?_
  exact hk4 x0 x1 (x2 + (1 : Int32)) _ hq0 h
def Pt_sparksToNextOut_30 (ν : Nm) (k4 : Nat → Int32 → Int32 → Option Int32) (x0 : Nat) (x2 : Int32) (x3 : Int32) : Option Int32 :=
  Pt_sparksToNextOut_32 ν k4 x0 x3 x2
set_option maxRecDepth 100000 in
set_option maxHeartbeats 4000000 in
theorem t_Pt_sparksToNextOut_30 {g : GG} {d : Nat} {ν : Nm} (hd0 : 3 ≤ d) {k4 : Nat → Int32 → Int32 → Option Int32} (hk4 : ∀ (x0 : Nat) (x1 : Int32) (x2 : Int32) (r : Int32), zk 333 x0 (1, 0) → k4 x0 x1 x2 = some r → Z g d (0, 0) mX2_sparksToNextOut 333 0 0 4 [(0, .ref x0), (1, .int x1), (2, .int x2)] [] (zem ν) (zF g (some (.int r), zem ν))) : ∀ (x0 : Nat) (x2 : Int32) (x3 : Int32) (r : Int32), zk 333 x0 (1, 0) → Pt_sparksToNextOut_30 ν k4 x0 x2 x3 = some r → Z g d (0, 0) mX2_sparksToNextOut 333 0 0 30 [(0, .ref x0), (2, .int x2), (3, .int x3)] [] (zem ν) (zF g (some (.int r), zem ν)) := by
  intro x0 x2 x3 r hq0 h
  unfold Pt_sparksToNextOut_30 at h
  refine z_iload_n dX2_sparksToNextOut_30 2 rfl ?_
  refine z_istore_n (M := mX2_sparksToNextOut) (lv2 := [(1, .int x3), (0, .ref x0), (2, .int x2), (3, .int x3)]) dX2_sparksToNextOut_31 (Nat.le_of_ble_eq_true rfl) rfl ?_
  refine z_lv (lv2 := [(0, .ref x0), (1, .int x3), (2, .int x2)]) [1, 0, 2] rfl ?_
  exact t_Pt_sparksToNextOut_32 hd0 hk4 x0 x3 x2 _ hq0 h
def Pt_sparksToNextOut_4 (ν : Nm) : Nat → Nat → Int32 → Int32 → Option Int32
  | 0, _, _, _ => none
  | f + 1, x0, x1, x2 =>
    (if (4 : Int32) ≤ x2 then
      some x1
    else
      (Pt_sparksToOut ν x0 x2).bind fun v2 =>
      (if v2 = (-1 : Int32) then
        Pt_sparksToNextOut_32 ν (Pt_sparksToNextOut_4 ν f) x0 x1 x2
      else
        (if x1 = (-1 : Int32) then
          Pt_sparksToNextOut_30 ν (Pt_sparksToNextOut_4 ν f) x0 x2 v2
        else
          (if x1 ≤ v2 then
            Pt_sparksToNextOut_32 ν (Pt_sparksToNextOut_4 ν f) x0 x1 x2
          else
            Pt_sparksToNextOut_30 ν (Pt_sparksToNextOut_4 ν f) x0 x2 v2))))
set_option maxRecDepth 100000 in
set_option maxHeartbeats 4000000 in
theorem t_Pt_sparksToNextOut_4 {g : GG} {d : Nat} {ν : Nm} (hd0 : 3 ≤ d) : ∀ (f : Nat), ∀ (x0 : Nat) (x1 : Int32) (x2 : Int32) (r : Int32), zk 333 x0 (1, 0) → Pt_sparksToNextOut_4 ν f x0 x1 x2 = some r → Z g d (0, 0) mX2_sparksToNextOut 333 0 0 4 [(0, .ref x0), (1, .int x1), (2, .int x2)] [] (zem ν) (zF g (some (.int r), zem ν)) := by
  intro f
  induction f with
  | zero =>
    intro x0 x1 x2 r hq0 h
    cases h
  | succ f ih =>
    intro x0 x1 x2 r hq0 h
    rw [Pt_sparksToNextOut_4] at h
    refine z_iload_n dX2_sparksToNextOut_4 2 rfl ?_
    refine z_iconst (M := mX2_sparksToNextOut) (v := 4) dX2_sparksToNextOut_5 rfl ?_
    refine z_icmp_ge 38 dX2_sparksToNextOut_6 rfl (fun hc1 => ?_) (fun hc1 => ?_)
    · replace h := oT hc1 h
      refine z_iload_n dX2_sparksToNextOut_38 1 rfl ?_
      cases h
      exact z_iret dX2_sparksToNextOut_39 rfl
    · replace h := oF hc1 h
      refine z_aload_n dX2_sparksToNextOut_9 0 rfl ?_
      refine z_iload_n dX2_sparksToNextOut_10 2 rfl ?_
      obtain ⟨v2, he2, h⟩ := obind h
      refine y_Vi (M := mX2_sparksToNextOut) (Y := mX2_sparksToOut) (d2 := d - 1) (As := [.int x2]) (st := []) dX2_sparksToNextOut_11 mlRX2_61 cv_X2_sparksToOut hq0 (ct_Pt_sparksToOut (dle (Nat.le_of_ble_eq_true rfl) hd0) hq0 he2) (dps (Nat.le_of_ble_eq_true rfl) hd0) rfl rfl (Nat.le_of_ble_eq_true rfl) ?_
      refine z_istore_n (M := mX2_sparksToNextOut) (lv2 := [(3, .int v2), (0, .ref x0), (1, .int x1), (2, .int x2)]) dX2_sparksToNextOut_14 (Nat.le_of_ble_eq_true rfl) rfl ?_
      refine z_iload_n dX2_sparksToNextOut_15 0 rfl ?_
      refine z_iconst (M := mX2_sparksToNextOut) (v := -1) dX2_sparksToNextOut_16 rfl ?_
      refine z_icmp_eq 32 dX2_sparksToNextOut_17 rfl (fun hc3 => ?_) (fun hc3 => ?_)
      · replace h := oT hc3 h
        refine z_lv (lv2 := [(0, .ref x0), (1, .int x1), (2, .int x2)]) [1, 2, 3] rfl ?_
        exact t_Pt_sparksToNextOut_32 hd0 ih x0 x1 x2 _ hq0 h
      · replace h := oF hc3 h
        refine z_iload_n dX2_sparksToNextOut_20 2 rfl ?_
        refine z_iconst (M := mX2_sparksToNextOut) (v := -1) dX2_sparksToNextOut_21 rfl ?_
        refine z_icmp_eq 30 dX2_sparksToNextOut_22 rfl (fun hc4 => ?_) (fun hc4 => ?_)
        · replace h := oT hc4 h
          refine z_lv (lv2 := [(0, .ref x0), (2, .int x2), (3, .int v2)]) [1, 3, 0] rfl ?_
          exact t_Pt_sparksToNextOut_30 hd0 ih x0 x2 v2 _ hq0 h
        · replace h := oF hc4 h
          refine z_iload_n dX2_sparksToNextOut_25 0 rfl ?_
          refine z_iload_n dX2_sparksToNextOut_26 2 rfl ?_
          refine z_icmp_ge 32 dX2_sparksToNextOut_27 rfl (fun hc5 => ?_) (fun hc5 => ?_)
          · replace h := oT hc5 h
            refine z_lv (lv2 := [(0, .ref x0), (1, .int x1), (2, .int x2)]) [1, 2, 3] rfl ?_
            exact t_Pt_sparksToNextOut_32 hd0 ih x0 x1 x2 _ hq0 h
          · replace h := oF hc5 h
            refine z_lv (lv2 := [(0, .ref x0), (2, .int x2), (3, .int v2)]) [1, 3, 0] rfl ?_
            exact t_Pt_sparksToNextOut_30 hd0 ih x0 x2 v2 _ hq0 h
def Pt_sparksToNextOut (ν : Nm) (x0 : Nat) : Option Int32 :=
  Pt_sparksToNextOut_4 ν FU x0 (-1 : Int32) (0 : Int32)
set_option maxRecDepth 100000 in
set_option maxHeartbeats 4000000 in
theorem t_Pt_sparksToNextOut {g : GG} {d : Nat} {ν : Nm} (hd0 : 3 ≤ d) : ∀ (x0 : Nat) (r : Int32), zk 333 x0 (1, 0) → Pt_sparksToNextOut ν x0 = some r → Z g d (0, 0) mX2_sparksToNextOut 333 0 0 0 [(0, .ref x0)] [] (zem ν) (zF g (some (.int r), zem ν)) := by
  intro x0 r hq0 h
  unfold Pt_sparksToNextOut at h
  refine z_iconst (M := mX2_sparksToNextOut) (v := -1) dX2_sparksToNextOut_0 rfl ?_
  refine z_istore_n (M := mX2_sparksToNextOut) (lv2 := [(1, .int (-1 : Int32)), (0, .ref x0)]) dX2_sparksToNextOut_1 (Nat.le_of_ble_eq_true rfl) rfl ?_
  refine z_iconst (M := mX2_sparksToNextOut) (v := 0) dX2_sparksToNextOut_2 rfl ?_
  refine z_istore_n (M := mX2_sparksToNextOut) (lv2 := [(2, .int (0 : Int32)), (1, .int (-1 : Int32)), (0, .ref x0)]) dX2_sparksToNextOut_3 (Nat.le_of_ble_eq_true rfl) rfl ?_
  refine z_lv (lv2 := [(0, .ref x0), (1, .int (-1 : Int32)), (2, .int (0 : Int32))]) [2, 1, 0] rfl ?_
  exact t_Pt_sparksToNextOut_4 hd0 FU x0 (-1 : Int32) (0 : Int32) _ hq0 h
theorem ct_Pt_sparksToNextOut {g : GG} {d : Nat} {x0 : Nat} {ν : Nm} {r : Int32} (hd0 : 3 ≤ d) (hq0 : zk 333 x0 (1, 0)) (h : Pt_sparksToNextOut ν x0 = some r) : Ct g d mX2_sparksToNextOut [.ref x0] (zem ν) (some (.int r), zem ν) := y_entry in_X2_sparksToNextOut (Nat.le_of_ble_eq_true rfl) rfl (t_Pt_sparksToNextOut hd0 x0 r hq0 h)
-- FuseMinutes$Pit.sparksToBurn()I
theorem dX2_sparksToBurn_0 : decode cX2_sparksToBurn 0 = .ok (.aload_n 0, 1) := by decide +kernel
theorem dX2_sparksToBurn_1 : decode cX2_sparksToBurn 1 = .ok (.invokevirtual 64, 3) := by decide +kernel
theorem dX2_sparksToBurn_4 : decode cX2_sparksToBurn 4 = .ok (.istore_n 1, 1) := by decide +kernel
theorem dX2_sparksToBurn_5 : decode cX2_sparksToBurn 5 = .ok (.iload_n 1, 1) := by decide +kernel
theorem dX2_sparksToBurn_6 : decode cX2_sparksToBurn 6 = .ok (.iconst (-1), 1) := by decide +kernel
theorem dX2_sparksToBurn_7 : decode cX2_sparksToBurn 7 = .ok (.if_icmp .eq 14, 3) := by decide +kernel
theorem dX2_sparksToBurn_10 : decode cX2_sparksToBurn 10 = .ok (.aload_n 0, 1) := by decide +kernel
theorem dX2_sparksToBurn_11 : decode cX2_sparksToBurn 11 = .ok (.getfield 28, 3) := by decide +kernel
theorem dX2_sparksToBurn_14 : decode cX2_sparksToBurn 14 = .ok (.iload_n 1, 1) := by decide +kernel
theorem dX2_sparksToBurn_15 : decode cX2_sparksToBurn 15 = .ok (.iadd, 1) := by decide +kernel
theorem dX2_sparksToBurn_16 : decode cX2_sparksToBurn 16 = .ok (.ldc 68, 2) := by decide +kernel
theorem dX2_sparksToBurn_18 : decode cX2_sparksToBurn 18 = .ok (.if_icmp .le 7, 3) := by decide +kernel
theorem dX2_sparksToBurn_21 : decode cX2_sparksToBurn 21 = .ok (.iconst (-1), 1) := by decide +kernel
theorem dX2_sparksToBurn_22 : decode cX2_sparksToBurn 22 = .ok (.goto 4, 3) := by decide +kernel
theorem dX2_sparksToBurn_25 : decode cX2_sparksToBurn 25 = .ok (.iload_n 1, 1) := by decide +kernel
theorem dX2_sparksToBurn_26 : decode cX2_sparksToBurn 26 = .ok (.ireturn, 1) := by decide +kernel
def Pt_sparksToBurn (ν : Nm) (x0 : Nat) : Option Int32 :=
  (Pt_sparksToNextOut ν x0).bind fun v1 =>
  (if v1 = (-1 : Int32) then
    some (-1 : Int32)
  else
    (if ((gi ν x0 1) + v1) ≤ (639936 : Int32) then
      some v1
    else
      some (-1 : Int32)))
set_option maxRecDepth 100000 in
set_option maxHeartbeats 4000000 in
theorem t_Pt_sparksToBurn {g : GG} {d : Nat} {ν : Nm} (hd0 : 4 ≤ d) : ∀ (x0 : Nat) (r : Int32), zk 333 x0 (1, 0) → Pt_sparksToBurn ν x0 = some r → Z g d (0, 0) mX2_sparksToBurn 333 0 0 0 [(0, .ref x0)] [] (zem ν) (zF g (some (.int r), zem ν)) := by
  intro x0 r hq0 h
  unfold Pt_sparksToBurn at h
  refine z_aload_n dX2_sparksToBurn_0 0 rfl ?_
  obtain ⟨v1, he1, h⟩ := obind h
  refine y_Vi (M := mX2_sparksToBurn) (Y := mX2_sparksToNextOut) (d2 := d - 1) (As := []) (st := []) dX2_sparksToBurn_1 mlRX2_64 cv_X2_sparksToNextOut hq0 (ct_Pt_sparksToNextOut (dle (Nat.le_of_ble_eq_true rfl) hd0) hq0 he1) (dps (Nat.le_of_ble_eq_true rfl) hd0) rfl rfl (Nat.le_of_ble_eq_true rfl) ?_
  refine z_istore_n (M := mX2_sparksToBurn) (lv2 := [(1, .int v1), (0, .ref x0)]) dX2_sparksToBurn_4 (Nat.le_of_ble_eq_true rfl) rfl ?_
  refine z_iload_n dX2_sparksToBurn_5 0 rfl ?_
  refine z_iconst (M := mX2_sparksToBurn) (v := -1) dX2_sparksToBurn_6 rfl ?_
  refine z_icmp_eq 21 dX2_sparksToBurn_7 rfl (fun hc2 => ?_) (fun hc2 => ?_)
  · replace h := oT hc2 h
    refine z_iconst (M := mX2_sparksToBurn) (v := -1) dX2_sparksToBurn_21 rfl ?_
    refine z_goto 26 dX2_sparksToBurn_22 rfl ?_
    cases h
    exact z_iret dX2_sparksToBurn_26 rfl
  · replace h := oF hc2 h
    refine z_aload_n dX2_sparksToBurn_10 1 rfl ?_
    refine y_getI dX2_sparksToBurn_11 hq0 flRX2_28 ?_
    refine z_iload_n dX2_sparksToBurn_14 0 rfl ?_
    refine z_iadd dX2_sparksToBurn_15 ?_
    refine z_ldc dX2_sparksToBurn_16 csRX2_68 ?_
    refine z_icmp_le 25 dX2_sparksToBurn_18 rfl (fun hc3 => ?_) (fun hc3 => ?_)
    · replace h := oT hc3 h
      refine z_iload_n dX2_sparksToBurn_25 0 rfl ?_
      cases h
      exact z_iret dX2_sparksToBurn_26 rfl
    · replace h := oF hc3 h
      refine z_iconst (M := mX2_sparksToBurn) (v := -1) dX2_sparksToBurn_21 rfl ?_
      refine z_goto 26 dX2_sparksToBurn_22 rfl ?_
      cases h
      exact z_iret dX2_sparksToBurn_26 rfl
theorem ct_Pt_sparksToBurn {g : GG} {d : Nat} {x0 : Nat} {ν : Nm} {r : Int32} (hd0 : 4 ≤ d) (hq0 : zk 333 x0 (1, 0)) (h : Pt_sparksToBurn ν x0 = some r) : Ct g d mX2_sparksToBurn [.ref x0] (zem ν) (some (.int r), zem ν) := y_entry in_X2_sparksToBurn (Nat.le_of_ble_eq_true rfl) rfl (t_Pt_sparksToBurn hd0 x0 r hq0 h)
-- FuseMinutes$Pit.hasTimeFor(I)Z
theorem dX2_hasTimeFor_0 : decode cX2_hasTimeFor 0 = .ok (.aload_n 0, 1) := by decide +kernel
theorem dX2_hasTimeFor_1 : decode cX2_hasTimeFor 1 = .ok (.getfield 28, 3) := by decide +kernel
theorem dX2_hasTimeFor_4 : decode cX2_hasTimeFor 4 = .ok (.iload_n 1, 1) := by decide +kernel
theorem dX2_hasTimeFor_5 : decode cX2_hasTimeFor 5 = .ok (.bipush 64, 2) := by decide +kernel
theorem dX2_hasTimeFor_7 : decode cX2_hasTimeFor 7 = .ok (.imul, 1) := by decide +kernel
theorem dX2_hasTimeFor_8 : decode cX2_hasTimeFor 8 = .ok (.iadd, 1) := by decide +kernel
theorem dX2_hasTimeFor_9 : decode cX2_hasTimeFor 9 = .ok (.ldc 68, 2) := by decide +kernel
theorem dX2_hasTimeFor_11 : decode cX2_hasTimeFor 11 = .ok (.if_icmp .gt 7, 3) := by decide +kernel
theorem dX2_hasTimeFor_14 : decode cX2_hasTimeFor 14 = .ok (.iconst 1, 1) := by decide +kernel
theorem dX2_hasTimeFor_15 : decode cX2_hasTimeFor 15 = .ok (.goto 4, 3) := by decide +kernel
theorem dX2_hasTimeFor_18 : decode cX2_hasTimeFor 18 = .ok (.iconst 0, 1) := by decide +kernel
theorem dX2_hasTimeFor_19 : decode cX2_hasTimeFor 19 = .ok (.ireturn, 1) := by decide +kernel
def Pt_hasTimeFor (ν : Nm) (x0 : Nat) (x1 : Int32) : Option Bool :=
  (if (639936 : Int32) < ((gi ν x0 1) + (x1 * (64 : Int32))) then
    some false
  else
    some true)
set_option maxRecDepth 100000 in
set_option maxHeartbeats 4000000 in
theorem t_Pt_hasTimeFor {g : GG} {d : Nat} {ν : Nm} (hd0 : 1 ≤ d) : ∀ (x0 : Nat) (x1 : Int32) (r : Bool), zk 333 x0 (1, 0) → Pt_hasTimeFor ν x0 x1 = some r → Z g d (0, 0) mX2_hasTimeFor 333 0 0 0 [(0, .ref x0), (1, .int x1)] [] (zem ν) (zF g (some (.int (b2i r)), zem ν)) := by
  intro x0 x1 r hq0 h
  unfold Pt_hasTimeFor at h
  refine z_aload_n dX2_hasTimeFor_0 0 rfl ?_
  refine y_getI dX2_hasTimeFor_1 hq0 flRX2_28 ?_
  refine z_iload_n dX2_hasTimeFor_4 1 rfl ?_
  refine z_bipush (M := mX2_hasTimeFor) (v := 64) dX2_hasTimeFor_5 rfl ?_
  refine z_imul dX2_hasTimeFor_7 ?_
  refine z_iadd dX2_hasTimeFor_8 ?_
  refine z_ldc dX2_hasTimeFor_9 csRX2_68 ?_
  refine z_icmp_gt 18 dX2_hasTimeFor_11 rfl (fun hc1 => ?_) (fun hc1 => ?_)
  · replace h := oT hc1 h
    refine z_iconst (M := mX2_hasTimeFor) (v := 0) dX2_hasTimeFor_18 rfl ?_
    cases h
    exact z_zret dX2_hasTimeFor_19 rfl rfl
  · replace h := oF hc1 h
    refine z_iconst (M := mX2_hasTimeFor) (v := 1) dX2_hasTimeFor_14 rfl ?_
    refine z_goto 19 dX2_hasTimeFor_15 rfl ?_
    cases h
    exact z_zret dX2_hasTimeFor_19 rfl rfl
theorem ct_Pt_hasTimeFor {g : GG} {d : Nat} {x0 : Nat} {x1 : Int32} {ν : Nm} {r : Bool} (hd0 : 1 ≤ d) (hq0 : zk 333 x0 (1, 0)) (h : Pt_hasTimeFor ν x0 x1 = some r) : Ct g d mX2_hasTimeFor [.ref x0, .int x1] (zem ν) (some (.int (b2i r)), zem ν) := y_entry in_X2_hasTimeFor (Nat.le_of_ble_eq_true rfl) rfl (t_Pt_hasTimeFor hd0 x0 x1 r hq0 h)
-- FuseMinutes$Pit.passWithin(I)I
theorem dX2_passWithin_0 : decode cX2_passWithin 0 = .ok (.iconst 0, 1) := by decide +kernel
theorem dX2_passWithin_1 : decode cX2_passWithin 1 = .ok (.istore_n 2, 1) := by decide +kernel
theorem dX2_passWithin_2 : decode cX2_passWithin 2 = .ok (.aload_n 0, 1) := by decide +kernel
theorem dX2_passWithin_3 : decode cX2_passWithin 3 = .ok (.dup, 1) := by decide +kernel
theorem dX2_passWithin_4 : decode cX2_passWithin 4 = .ok (.getfield 28, 3) := by decide +kernel
theorem dX2_passWithin_7 : decode cX2_passWithin 7 = .ok (.iload_n 1, 1) := by decide +kernel
theorem dX2_passWithin_8 : decode cX2_passWithin 8 = .ok (.iadd, 1) := by decide +kernel
theorem dX2_passWithin_9 : decode cX2_passWithin 9 = .ok (.putfield 28, 3) := by decide +kernel
theorem dX2_passWithin_12 : decode cX2_passWithin 12 = .ok (.aload_n 0, 1) := by decide +kernel
theorem dX2_passWithin_13 : decode cX2_passWithin 13 = .ok (.iconst 0, 1) := by decide +kernel
theorem dX2_passWithin_14 : decode cX2_passWithin 14 = .ok (.putfield 31, 3) := by decide +kernel
theorem dX2_passWithin_17 : decode cX2_passWithin 17 = .ok (.iconst 0, 1) := by decide +kernel
theorem dX2_passWithin_18 : decode cX2_passWithin 18 = .ok (.istore_n 3, 1) := by decide +kernel
theorem dX2_passWithin_19 : decode cX2_passWithin 19 = .ok (.iload_n 3, 1) := by decide +kernel
theorem dX2_passWithin_20 : decode cX2_passWithin 20 = .ok (.iconst 4, 1) := by decide +kernel
theorem dX2_passWithin_21 : decode cX2_passWithin 21 = .ok (.if_icmp .ge 72, 3) := by decide +kernel
theorem dX2_passWithin_24 : decode cX2_passWithin 24 = .ok (.aload_n 0, 1) := by decide +kernel
theorem dX2_passWithin_25 : decode cX2_passWithin 25 = .ok (.getfield 19, 3) := by decide +kernel
theorem dX2_passWithin_28 : decode cX2_passWithin 28 = .ok (.iload_n 3, 1) := by decide +kernel
theorem dX2_passWithin_29 : decode cX2_passWithin 29 = .ok (.iaload, 1) := by decide +kernel
theorem dX2_passWithin_30 : decode cX2_passWithin 30 = .ok (.ifCond .eq 57, 3) := by decide +kernel
theorem dX2_passWithin_33 : decode cX2_passWithin 33 = .ok (.aload_n 0, 1) := by decide +kernel
theorem dX2_passWithin_34 : decode cX2_passWithin 34 = .ok (.getfield 15, 3) := by decide +kernel
theorem dX2_passWithin_37 : decode cX2_passWithin 37 = .ok (.iload_n 3, 1) := by decide +kernel
theorem dX2_passWithin_38 : decode cX2_passWithin 38 = .ok (.iconst 0, 1) := by decide +kernel
theorem dX2_passWithin_39 : decode cX2_passWithin 39 = .ok (.aload_n 0, 1) := by decide +kernel
theorem dX2_passWithin_40 : decode cX2_passWithin 40 = .ok (.getfield 15, 3) := by decide +kernel
theorem dX2_passWithin_43 : decode cX2_passWithin 43 = .ok (.iload_n 3, 1) := by decide +kernel
theorem dX2_passWithin_44 : decode cX2_passWithin 44 = .ok (.iaload, 1) := by decide +kernel
theorem dX2_passWithin_45 : decode cX2_passWithin 45 = .ok (.iload_n 1, 1) := by decide +kernel
theorem dX2_passWithin_46 : decode cX2_passWithin 46 = .ok (.aload_n 0, 1) := by decide +kernel
theorem dX2_passWithin_47 : decode cX2_passWithin 47 = .ok (.getfield 19, 3) := by decide +kernel
theorem dX2_passWithin_50 : decode cX2_passWithin 50 = .ok (.iload_n 3, 1) := by decide +kernel
theorem dX2_passWithin_51 : decode cX2_passWithin 51 = .ok (.iaload, 1) := by decide +kernel
theorem dX2_passWithin_52 : decode cX2_passWithin 52 = .ok (.invokestatic 55, 3) := by decide +kernel
theorem dX2_passWithin_55 : decode cX2_passWithin 55 = .ok (.imul, 1) := by decide +kernel
theorem dX2_passWithin_56 : decode cX2_passWithin 56 = .ok (.isub, 1) := by decide +kernel
theorem dX2_passWithin_57 : decode cX2_passWithin 57 = .ok (.invokestatic 78, 3) := by decide +kernel
theorem dX2_passWithin_60 : decode cX2_passWithin 60 = .ok (.iastore, 1) := by decide +kernel
theorem dX2_passWithin_61 : decode cX2_passWithin 61 = .ok (.aload_n 0, 1) := by decide +kernel
theorem dX2_passWithin_62 : decode cX2_passWithin 62 = .ok (.getfield 15, 3) := by decide +kernel
theorem dX2_passWithin_65 : decode cX2_passWithin 65 = .ok (.iload_n 3, 1) := by decide +kernel
theorem dX2_passWithin_66 : decode cX2_passWithin 66 = .ok (.iaload, 1) := by decide +kernel
theorem dX2_passWithin_67 : decode cX2_passWithin 67 = .ok (.ifCond .ne 20, 3) := by decide +kernel
theorem dX2_passWithin_70 : decode cX2_passWithin 70 = .ok (.aload_n 0, 1) := by decide +kernel
theorem dX2_passWithin_71 : decode cX2_passWithin 71 = .ok (.getfield 19, 3) := by decide +kernel
theorem dX2_passWithin_74 : decode cX2_passWithin 74 = .ok (.iload_n 3, 1) := by decide +kernel
theorem dX2_passWithin_75 : decode cX2_passWithin 75 = .ok (.iconst 0, 1) := by decide +kernel
theorem dX2_passWithin_76 : decode cX2_passWithin 76 = .ok (.iastore, 1) := by decide +kernel
theorem dX2_passWithin_77 : decode cX2_passWithin 77 = .ok (.aload_n 0, 1) := by decide +kernel
theorem dX2_passWithin_78 : decode cX2_passWithin 78 = .ok (.iload_n 3, 1) := by decide +kernel
theorem dX2_passWithin_79 : decode cX2_passWithin 79 = .ok (.iconst 3, 1) := by decide +kernel
theorem dX2_passWithin_80 : decode cX2_passWithin 80 = .ok (.iconst 0, 1) := by decide +kernel
theorem dX2_passWithin_81 : decode cX2_passWithin 81 = .ok (.invokevirtual 51, 3) := by decide +kernel
theorem dX2_passWithin_84 : decode cX2_passWithin 84 = .ok (.iinc 2 1, 3) := by decide +kernel
theorem dX2_passWithin_87 : decode cX2_passWithin 87 = .ok (.iinc 3 1, 3) := by decide +kernel
theorem dX2_passWithin_90 : decode cX2_passWithin 90 = .ok (.goto (-71), 3) := by decide +kernel
theorem dX2_passWithin_93 : decode cX2_passWithin 93 = .ok (.iload_n 2, 1) := by decide +kernel
theorem dX2_passWithin_94 : decode cX2_passWithin 94 = .ok (.ireturn, 1) := by decide +kernel
def Pt_passWithin_87 (k19 : Nat → Int32 → Int32 → Int32 → Nm → Option (Int32 × Nm)) (x0 : Nat) (x1 : Int32) (x2 : Int32) (x3 : Int32) (ν : Nm) : Option (Int32 × Nm) :=
  k19 x0 x1 x2 (x3 + (1 : Int32)) ν
set_option maxRecDepth 100000 in
set_option maxHeartbeats 4000000 in
theorem t_Pt_passWithin_87 {g : GG} {d : Nat} (hd0 : 2 ≤ d) {k19 : Nat → Int32 → Int32 → Int32 → Nm → Option (Int32 × Nm)} (hk19 : ∀ (x0 : Nat) (x1 : Int32) (x2 : Int32) (x3 : Int32) (ν : Nm) (r : (Int32 × Nm)), zk 333 x0 (1, 0) → k19 x0 x1 x2 x3 ν = some r → Z g d (0, 0) mX2_passWithin 333 0 0 19 [(0, .ref x0), (1, .int x1), (2, .int x2), (3, .int x3)] [] (zem ν) (zF g (some (.int r.1), zem r.2))) : ∀ (x0 : Nat) (x1 : Int32) (x2 : Int32) (x3 : Int32) (ν : Nm) (r : (Int32 × Nm)), zk 333 x0 (1, 0) → Pt_passWithin_87 k19 x0 x1 x2 x3 ν = some r → Z g d (0, 0) mX2_passWithin 333 0 0 87 [(0, .ref x0), (1, .int x1), (2, .int x2), (3, .int x3)] [] (zem ν) (zF g (some (.int r.1), zem r.2)) := by
  intro x0 x1 x2 x3 ν r hq0 h
  unfold Pt_passWithin_87 at h
  refine z_iinc (M := mX2_passWithin) (v := (x3 + (1 : Int32))) (lv2 := [(3, .int (x3 + (1 : Int32))), (0, .ref x0), (1, .int x1), (2, .int x2)]) dX2_passWithin_87 3 rfl rfl (Nat.le_of_ble_eq_true rfl) rfl ?_
  refine z_goto 19 dX2_passWithin_90 rfl ?_
  refine z_lv (lv2 := [(0, .ref x0), (1, .int x1), (2, .int x2), (3, .int (x3 + (1 : Int32)))]) [1, 2, 3, 0] rfl ?_
  exact hk19 x0 x1 x2 (x3 + (1 : Int32)) ν _ hq0 h
def Pt_passWithin_19 : Nat → Nat → Int32 → Int32 → Int32 → Nm → Option (Int32 × Nm)
  | 0, _, _, _, _, _ => none
  | f + 1, x0, x1, x2, x3, ν =>
    (if (4 : Int32) ≤ x3 then
      some (x2, ν)
    else
      if inb x3 4 then
      (if (gi ν (x0 + 2) x3.toNatClampNeg) = 0 then
        Pt_passWithin_87 (Pt_passWithin_19 f) x0 x1 x2 x3 ν
      else
        if inb x3 4 then
        if inb x3 4 then
        (In_bitCount (gi ν (x0 + 2) x3.toNatClampNeg)).bind fun v6 =>
        if inb x3 4 then
        if inb x3 4 then
        (if ¬ (gi (si ν (x0 + 1) x3.toNatClampNeg (imax (0 : Int32) ((gi ν (x0 + 1) x3.toNatClampNeg) - (x1 * v6)))) (x0 + 1) x3.toNatClampNeg) = 0 then
          Pt_passWithin_87 (Pt_passWithin_19 f) x0 x1 x2 x3 (si ν (x0 + 1) x3.toNatClampNeg (imax (0 : Int32) ((gi ν (x0 + 1) x3.toNatClampNeg) - (x1 * v6))))
        else
          if inb x3 4 then
          (Pt_writeDown x0 x3 (3 : Int32) (0 : Int32) (si (si ν (x0 + 1) x3.toNatClampNeg (imax (0 : Int32) ((gi ν (x0 + 1) x3.toNatClampNeg) - (x1 * v6)))) (x0 + 2) x3.toNatClampNeg (0 : Int32))).bind fun v11 =>
          Pt_passWithin_87 (Pt_passWithin_19 f) x0 x1 (x2 + (1 : Int32)) x3 v11
          else none)
        else none
        else none
        else none
        else none)
      else none)
set_option maxRecDepth 100000 in
set_option maxHeartbeats 4000000 in
theorem t_Pt_passWithin_19 {g : GG} {d : Nat} (hd0 : 2 ≤ d) : ∀ (f : Nat), ∀ (x0 : Nat) (x1 : Int32) (x2 : Int32) (x3 : Int32) (ν : Nm) (r : (Int32 × Nm)), zk 333 x0 (1, 0) → Pt_passWithin_19 f x0 x1 x2 x3 ν = some r → Z g d (0, 0) mX2_passWithin 333 0 0 19 [(0, .ref x0), (1, .int x1), (2, .int x2), (3, .int x3)] [] (zem ν) (zF g (some (.int r.1), zem r.2)) := by
  intro f
  induction f with
  | zero =>
    intro x0 x1 x2 x3 ν r hq0 h
    cases h
  | succ f ih =>
    intro x0 x1 x2 x3 ν r hq0 h
    rw [Pt_passWithin_19] at h
    refine z_iload_n dX2_passWithin_19 3 rfl ?_
    refine z_iconst (M := mX2_passWithin) (v := 4) dX2_passWithin_20 rfl ?_
    refine z_icmp_ge 93 dX2_passWithin_21 rfl (fun hc1 => ?_) (fun hc1 => ?_)
    · replace h := oT hc1 h
      refine z_iload_n dX2_passWithin_93 2 rfl ?_
      cases h
      exact z_iret dX2_passWithin_94 rfl
    · replace h := oF hc1 h
      refine z_aload_n dX2_passWithin_24 0 rfl ?_
      refine y_getR (M := mX2_passWithin) (r := (x0 + 2)) dX2_passWithin_25 hq0 flRX2_19 fr_1_5.1 (fr_1_5.2 _) ?_
      refine z_iload_n dX2_passWithin_28 3 rfl ?_
      obtain ⟨hi2, h⟩ := oif h
      refine y_iald (M := mX2_passWithin) (jj := x3.toNatClampNeg) dX2_passWithin_29 (zko_1_5 hq0) hi2 rfl ?_
      refine z_if_eq 87 dX2_passWithin_30 rfl (fun hc3 => ?_) (fun hc3 => ?_)
      · replace h := oT hc3 h
        exact t_Pt_passWithin_87 hd0 ih x0 x1 x2 x3 ν _ hq0 h
      · replace h := oF hc3 h
        refine z_aload_n dX2_passWithin_33 0 rfl ?_
        refine y_getR (M := mX2_passWithin) (r := (x0 + 1)) dX2_passWithin_34 hq0 flRX2_15 fr_1_4.1 (fr_1_4.2 _) ?_
        refine z_iload_n dX2_passWithin_37 3 rfl ?_
        refine z_iconst (M := mX2_passWithin) (v := 0) dX2_passWithin_38 rfl ?_
        refine z_aload_n dX2_passWithin_39 0 rfl ?_
        refine y_getR (M := mX2_passWithin) (r := (x0 + 1)) dX2_passWithin_40 hq0 flRX2_15 fr_1_4.1 (fr_1_4.2 _) ?_
        refine z_iload_n dX2_passWithin_43 3 rfl ?_
        obtain ⟨hi4, h⟩ := oif h
        refine y_iald (M := mX2_passWithin) (jj := x3.toNatClampNeg) dX2_passWithin_44 (zko_1_4 hq0) hi4 rfl ?_
        refine z_iload_n dX2_passWithin_45 1 rfl ?_
        refine z_aload_n dX2_passWithin_46 0 rfl ?_
        refine y_getR (M := mX2_passWithin) (r := (x0 + 2)) dX2_passWithin_47 hq0 flRX2_19 fr_1_5.1 (fr_1_5.2 _) ?_
        refine z_iload_n dX2_passWithin_50 3 rfl ?_
        obtain ⟨hi5, h⟩ := oif h
        refine y_iald (M := mX2_passWithin) (jj := x3.toNatClampNeg) dX2_passWithin_51 (zko_1_5 hq0) hi5 rfl ?_
        obtain ⟨v6, he6, h⟩ := obind h
        refine y_Si (M := mX2_passWithin) (Y := mJ6_bitCount_0f7a4) (d2 := d - 1) (As := [.int (gi ν (x0 + 2) x3.toNatClampNeg)]) (st := [.int x1, .int (gi ν (x0 + 1) x3.toNatClampNeg), .int (0 : Int32), .int x3, .ref (x0 + 1)]) dX2_passWithin_52 mlRX2_55 cv_J6_bitCount_0f7a4 (ct_In_bitCount (dle (Nat.le_of_ble_eq_true rfl) hd0) he6) (dps (Nat.le_of_ble_eq_true rfl) hd0) rfl rfl (Nat.le_of_ble_eq_true rfl) ?_
        refine z_imul dX2_passWithin_55 ?_
        refine z_isub dX2_passWithin_56 ?_
        refine y_mmax dX2_passWithin_57 mlRX2_78 mw_mmax (Nat.le_trans (Nat.le_of_ble_eq_true rfl) hd0) (Nat.le_of_ble_eq_true rfl) ?_
        obtain ⟨hi7, h⟩ := oif h
        refine y_iast (M := mX2_passWithin) (jj := x3.toNatClampNeg) dX2_passWithin_60 (zko_1_4 hq0) hi7 rfl ?_
        refine z_aload_n dX2_passWithin_61 0 rfl ?_
        refine y_getR (M := mX2_passWithin) (r := (x0 + 1)) dX2_passWithin_62 hq0 flRX2_15 fr_1_4.1 (fr_1_4.2 _) ?_
        refine z_iload_n dX2_passWithin_65 3 rfl ?_
        obtain ⟨hi8, h⟩ := oif h
        refine y_iald (M := mX2_passWithin) (jj := x3.toNatClampNeg) dX2_passWithin_66 (zko_1_4 hq0) hi8 rfl ?_
        refine z_if_ne 87 dX2_passWithin_67 rfl (fun hc9 => ?_) (fun hc9 => ?_)
        · replace h := oT hc9 h
          exact t_Pt_passWithin_87 hd0 ih x0 x1 x2 x3 (si ν (x0 + 1) x3.toNatClampNeg (imax (0 : Int32) ((gi ν (x0 + 1) x3.toNatClampNeg) - (x1 * v6)))) _ hq0 h
        · replace h := oFn hc9 h
          refine z_aload_n dX2_passWithin_70 0 rfl ?_
          refine y_getR (M := mX2_passWithin) (r := (x0 + 2)) dX2_passWithin_71 hq0 flRX2_19 fr_1_5.1 (fr_1_5.2 _) ?_
          refine z_iload_n dX2_passWithin_74 3 rfl ?_
          refine z_iconst (M := mX2_passWithin) (v := 0) dX2_passWithin_75 rfl ?_
          obtain ⟨hi10, h⟩ := oif h
          refine y_iast (M := mX2_passWithin) (jj := x3.toNatClampNeg) dX2_passWithin_76 (zko_1_5 hq0) hi10 rfl ?_
          refine z_aload_n dX2_passWithin_77 0 rfl ?_
          refine z_iload_n dX2_passWithin_78 3 rfl ?_
          refine z_iconst (M := mX2_passWithin) (v := 3) dX2_passWithin_79 rfl ?_
          refine z_iconst (M := mX2_passWithin) (v := 0) dX2_passWithin_80 rfl ?_
          obtain ⟨v11, he11, h⟩ := obind h
          refine y_Vv (M := mX2_passWithin) (Y := mX2_writeDown) (d2 := d - 1) (As := [.int x3, .int (3 : Int32), .int (0 : Int32)]) (st := []) dX2_passWithin_81 mlRX2_51 cv_X2_writeDown hq0 (ct_Pt_writeDown (dle (Nat.le_of_ble_eq_true rfl) hd0) hq0 he11) (dps (Nat.le_of_ble_eq_true rfl) hd0) rfl rfl (Nat.le_of_ble_eq_true rfl) ?_
          refine z_iinc (M := mX2_passWithin) (v := (x2 + (1 : Int32))) (lv2 := [(2, .int (x2 + (1 : Int32))), (0, .ref x0), (1, .int x1), (3, .int x3)]) dX2_passWithin_84 2 rfl rfl (Nat.le_of_ble_eq_true rfl) rfl ?_
          refine z_lv (lv2 := [(0, .ref x0), (1, .int x1), (2, .int (x2 + (1 : Int32))), (3, .int x3)]) [1, 2, 0, 3] rfl ?_
          exact t_Pt_passWithin_87 hd0 ih x0 x1 (x2 + (1 : Int32)) x3 v11 _ hq0 h
def Pt_passWithin (x0 : Nat) (x1 : Int32) (ν : Nm) : Option (Int32 × Nm) :=
  Pt_passWithin_19 FU x0 x1 (0 : Int32) (0 : Int32) (si (si ν x0 1 ((gi ν x0 1) + x1)) x0 3 (0 : Int32))
set_option maxRecDepth 100000 in
set_option maxHeartbeats 4000000 in
theorem t_Pt_passWithin {g : GG} {d : Nat} (hd0 : 2 ≤ d) : ∀ (x0 : Nat) (x1 : Int32) (ν : Nm) (r : (Int32 × Nm)), zk 333 x0 (1, 0) → Pt_passWithin x0 x1 ν = some r → Z g d (0, 0) mX2_passWithin 333 0 0 0 [(0, .ref x0), (1, .int x1)] [] (zem ν) (zF g (some (.int r.1), zem r.2)) := by
  intro x0 x1 ν r hq0 h
  unfold Pt_passWithin at h
  refine z_iconst (M := mX2_passWithin) (v := 0) dX2_passWithin_0 rfl ?_
  refine z_istore_n (M := mX2_passWithin) (lv2 := [(2, .int (0 : Int32)), (0, .ref x0), (1, .int x1)]) dX2_passWithin_1 (Nat.le_of_ble_eq_true rfl) rfl ?_
  refine z_aload_n dX2_passWithin_2 1 rfl ?_
  refine z_dup dX2_passWithin_3 rfl ?_
  refine y_getI dX2_passWithin_4 hq0 flRX2_28 ?_
  refine z_iload_n dX2_passWithin_7 2 rfl ?_
  refine z_iadd dX2_passWithin_8 ?_
  refine y_putI dX2_passWithin_9 hq0 flRX2_28 ⟨rfl, rfl⟩ ?_
  refine z_aload_n dX2_passWithin_12 1 rfl ?_
  refine z_iconst (M := mX2_passWithin) (v := 0) dX2_passWithin_13 rfl ?_
  refine y_putI dX2_passWithin_14 hq0 flRX2_31 ⟨rfl, rfl⟩ ?_
  refine z_iconst (M := mX2_passWithin) (v := 0) dX2_passWithin_17 rfl ?_
  refine z_istore_n (M := mX2_passWithin) (lv2 := [(3, .int (0 : Int32)), (2, .int (0 : Int32)), (0, .ref x0), (1, .int x1)]) dX2_passWithin_18 (Nat.le_of_ble_eq_true rfl) rfl ?_
  refine z_lv (lv2 := [(0, .ref x0), (1, .int x1), (2, .int (0 : Int32)), (3, .int (0 : Int32))]) [2, 3, 1, 0] rfl ?_
  exact t_Pt_passWithin_19 hd0 FU x0 x1 (0 : Int32) (0 : Int32) (si (si ν x0 1 ((gi ν x0 1) + x1)) x0 3 (0 : Int32)) _ hq0 h
theorem ct_Pt_passWithin {g : GG} {d : Nat} {x0 : Nat} {x1 : Int32} {ν : Nm} {r : (Int32 × Nm)} (hd0 : 2 ≤ d) (hq0 : zk 333 x0 (1, 0)) (h : Pt_passWithin x0 x1 ν = some r) : Ct g d mX2_passWithin [.ref x0, .int x1] (zem ν) (some (.int r.1), zem r.2) := y_entry in_X2_passWithin (Nat.le_of_ble_eq_true rfl) rfl (t_Pt_passWithin hd0 x0 x1 ν r hq0 h)
-- FuseMinutes$Pit.pass(I)I
theorem dX2_pass_0 : decode cX2_pass 0 = .ok (.iconst 0, 1) := by decide +kernel
theorem dX2_pass_1 : decode cX2_pass 1 = .ok (.istore_n 2, 1) := by decide +kernel
theorem dX2_pass_2 : decode cX2_pass 2 = .ok (.iload_n 1, 1) := by decide +kernel
theorem dX2_pass_3 : decode cX2_pass 3 = .ok (.istore_n 3, 1) := by decide +kernel
theorem dX2_pass_4 : decode cX2_pass 4 = .ok (.iconst 0, 1) := by decide +kernel
theorem dX2_pass_5 : decode cX2_pass 5 = .ok (.istore 4, 2) := by decide +kernel
theorem dX2_pass_7 : decode cX2_pass 7 = .ok (.iload 4, 2) := by decide +kernel
theorem dX2_pass_9 : decode cX2_pass 9 = .ok (.iconst 4, 1) := by decide +kernel
theorem dX2_pass_10 : decode cX2_pass 10 = .ok (.if_icmp .gt 51, 3) := by decide +kernel
theorem dX2_pass_13 : decode cX2_pass 13 = .ok (.iload_n 3, 1) := by decide +kernel
theorem dX2_pass_14 : decode cX2_pass 14 = .ok (.ifCond .le 47, 3) := by decide +kernel
theorem dX2_pass_17 : decode cX2_pass 17 = .ok (.aload_n 0, 1) := by decide +kernel
theorem dX2_pass_18 : decode cX2_pass 18 = .ok (.invokevirtual 64, 3) := by decide +kernel
theorem dX2_pass_21 : decode cX2_pass 21 = .ok (.istore 5, 2) := by decide +kernel
theorem dX2_pass_23 : decode cX2_pass 23 = .ok (.iload 5, 2) := by decide +kernel
theorem dX2_pass_25 : decode cX2_pass 25 = .ok (.iconst (-1), 1) := by decide +kernel
theorem dX2_pass_26 : decode cX2_pass 26 = .ok (.if_icmp .ne 7, 3) := by decide +kernel
theorem dX2_pass_29 : decode cX2_pass 29 = .ok (.iload_n 3, 1) := by decide +kernel
theorem dX2_pass_30 : decode cX2_pass 30 = .ok (.goto 9, 3) := by decide +kernel
theorem dX2_pass_33 : decode cX2_pass 33 = .ok (.iload_n 3, 1) := by decide +kernel
theorem dX2_pass_34 : decode cX2_pass 34 = .ok (.iload 5, 2) := by decide +kernel
theorem dX2_pass_36 : decode cX2_pass 36 = .ok (.invokestatic 69, 3) := by decide +kernel
theorem dX2_pass_39 : decode cX2_pass 39 = .ok (.istore 6, 2) := by decide +kernel
theorem dX2_pass_41 : decode cX2_pass 41 = .ok (.iload_n 2, 1) := by decide +kernel
theorem dX2_pass_42 : decode cX2_pass 42 = .ok (.aload_n 0, 1) := by decide +kernel
theorem dX2_pass_43 : decode cX2_pass 43 = .ok (.iload 6, 2) := by decide +kernel
theorem dX2_pass_45 : decode cX2_pass 45 = .ok (.invokevirtual 75, 3) := by decide +kernel
theorem dX2_pass_48 : decode cX2_pass 48 = .ok (.iadd, 1) := by decide +kernel
theorem dX2_pass_49 : decode cX2_pass 49 = .ok (.istore_n 2, 1) := by decide +kernel
theorem dX2_pass_50 : decode cX2_pass 50 = .ok (.iload_n 3, 1) := by decide +kernel
theorem dX2_pass_51 : decode cX2_pass 51 = .ok (.iload 6, 2) := by decide +kernel
theorem dX2_pass_53 : decode cX2_pass 53 = .ok (.isub, 1) := by decide +kernel
theorem dX2_pass_54 : decode cX2_pass 54 = .ok (.istore_n 3, 1) := by decide +kernel
theorem dX2_pass_55 : decode cX2_pass 55 = .ok (.iinc 4 1, 3) := by decide +kernel
theorem dX2_pass_58 : decode cX2_pass 58 = .ok (.goto (-51), 3) := by decide +kernel
theorem dX2_pass_61 : decode cX2_pass 61 = .ok (.iload_n 2, 1) := by decide +kernel
theorem dX2_pass_62 : decode cX2_pass 62 = .ok (.ireturn, 1) := by decide +kernel
def Pt_pass_39 (k7 : Nat → Int32 → Int32 → Int32 → Nm → Option (Int32 × Nm)) (x0 : Nat) (x2 : Int32) (x3 : Int32) (x4 : Int32) (s0 : Int32) (ν : Nm) : Option (Int32 × Nm) :=
  (Pt_passWithin x0 s0 ν).bind fun v1 =>
  k7 x0 (x2 + v1.1) (x3 - s0) (x4 + (1 : Int32)) v1.2
set_option maxRecDepth 100000 in
set_option maxHeartbeats 4000000 in
theorem t_Pt_pass_39 {g : GG} {d : Nat} (hd0 : 4 ≤ d) {k7 : Nat → Int32 → Int32 → Int32 → Nm → Option (Int32 × Nm)} (hk7 : ∀ (x0 : Nat) (x2 : Int32) (x3 : Int32) (x4 : Int32) (ν : Nm) (r : (Int32 × Nm)), zk 333 x0 (1, 0) → k7 x0 x2 x3 x4 ν = some r → Z g d (0, 0) mX2_pass 333 0 0 7 [(0, .ref x0), (2, .int x2), (3, .int x3), (4, .int x4)] [] (zem ν) (zF g (some (.int r.1), zem r.2))) : ∀ (x0 : Nat) (x2 : Int32) (x3 : Int32) (x4 : Int32) (s0 : Int32) (ν : Nm) (r : (Int32 × Nm)), zk 333 x0 (1, 0) → Pt_pass_39 k7 x0 x2 x3 x4 s0 ν = some r → Z g d (0, 0) mX2_pass 333 0 0 39 [(0, .ref x0), (2, .int x2), (3, .int x3), (4, .int x4)] [.int s0] (zem ν) (zF g (some (.int r.1), zem r.2)) := by
  intro x0 x2 x3 x4 s0 ν r hq0 h
  unfold Pt_pass_39 at h
  refine z_istore (M := mX2_pass) (lv2 := [(6, .int s0), (0, .ref x0), (2, .int x2), (3, .int x3), (4, .int x4)]) dX2_pass_39 (Nat.le_of_ble_eq_true rfl) rfl ?_
  refine z_iload_n dX2_pass_41 2 rfl ?_
  refine z_aload_n dX2_pass_42 1 rfl ?_
  refine z_iload dX2_pass_43 0 rfl ?_
  obtain ⟨v1, he1, h⟩ := obind h
  refine y_Vi (M := mX2_pass) (Y := mX2_passWithin) (d2 := d - 1) (As := [.int s0]) (st := [.int x2]) dX2_pass_45 mlRX2_75 cv_X2_passWithin hq0 (ct_Pt_passWithin (dle (Nat.le_of_ble_eq_true rfl) hd0) hq0 he1) (dps (Nat.le_of_ble_eq_true rfl) hd0) rfl rfl (Nat.le_of_ble_eq_true rfl) ?_
  refine z_iadd dX2_pass_48 ?_
  refine z_istore_n (M := mX2_pass) (lv2 := [(2, .int (x2 + v1.1)), (6, .int s0), (0, .ref x0), (3, .int x3), (4, .int x4)]) dX2_pass_49 (Nat.le_of_ble_eq_true rfl) rfl ?_
  refine z_iload_n dX2_pass_50 3 rfl ?_
  refine z_iload dX2_pass_51 1 rfl ?_
  refine z_isub dX2_pass_53 ?_
  refine z_istore_n (M := mX2_pass) (lv2 := [(3, .int (x3 - s0)), (2, .int (x2 + v1.1)), (6, .int s0), (0, .ref x0), (4, .int x4)]) dX2_pass_54 (Nat.le_of_ble_eq_true rfl) rfl ?_
  refine z_iinc (M := mX2_pass) (v := (x4 + (1 : Int32))) (lv2 := [(4, .int (x4 + (1 : Int32))), (3, .int (x3 - s0)), (2, .int (x2 + v1.1)), (6, .int s0), (0, .ref x0)]) dX2_pass_55 4 rfl rfl (Nat.le_of_ble_eq_true rfl) rfl ?_
  refine z_goto 7 dX2_pass_58 rfl ?_
  refine z_lv (lv2 := [(0, .ref x0), (2, .int (x2 + v1.1)), (3, .int (x3 - s0)), (4, .int (x4 + (1 : Int32)))]) [4, 2, 1, 0] rfl ?_
  exact hk7 x0 (x2 + v1.1) (x3 - s0) (x4 + (1 : Int32)) v1.2 _ hq0 h
def Pt_pass_7 : Nat → Nat → Int32 → Int32 → Int32 → Nm → Option (Int32 × Nm)
  | 0, _, _, _, _, _ => none
  | f + 1, x0, x2, x3, x4, ν =>
    (if (4 : Int32) < x4 then
      some (x2, ν)
    else
      (if x3 ≤ 0 then
        some (x2, ν)
      else
        (Pt_sparksToNextOut ν x0).bind fun v3 =>
        (if ¬ v3 = (-1 : Int32) then
          Pt_pass_39 (Pt_pass_7 f) x0 x2 x3 x4 (imin x3 v3) ν
        else
          Pt_pass_39 (Pt_pass_7 f) x0 x2 x3 x4 x3 ν)))
set_option maxRecDepth 100000 in
set_option maxHeartbeats 4000000 in
theorem t_Pt_pass_7 {g : GG} {d : Nat} (hd0 : 4 ≤ d) : ∀ (f : Nat), ∀ (x0 : Nat) (x2 : Int32) (x3 : Int32) (x4 : Int32) (ν : Nm) (r : (Int32 × Nm)), zk 333 x0 (1, 0) → Pt_pass_7 f x0 x2 x3 x4 ν = some r → Z g d (0, 0) mX2_pass 333 0 0 7 [(0, .ref x0), (2, .int x2), (3, .int x3), (4, .int x4)] [] (zem ν) (zF g (some (.int r.1), zem r.2)) := by
  intro f
  induction f with
  | zero =>
    intro x0 x2 x3 x4 ν r hq0 h
    cases h
  | succ f ih =>
    intro x0 x2 x3 x4 ν r hq0 h
    rw [Pt_pass_7] at h
    refine z_iload dX2_pass_7 3 rfl ?_
    refine z_iconst (M := mX2_pass) (v := 4) dX2_pass_9 rfl ?_
    refine z_icmp_gt 61 dX2_pass_10 rfl (fun hc1 => ?_) (fun hc1 => ?_)
    · replace h := oT hc1 h
      refine z_iload_n dX2_pass_61 1 rfl ?_
      cases h
      exact z_iret dX2_pass_62 rfl
    · replace h := oF hc1 h
      refine z_iload_n dX2_pass_13 2 rfl ?_
      refine z_if_le 61 dX2_pass_14 rfl (fun hc2 => ?_) (fun hc2 => ?_)
      · replace h := oT hc2 h
        refine z_iload_n dX2_pass_61 1 rfl ?_
        cases h
        exact z_iret dX2_pass_62 rfl
      · replace h := oF hc2 h
        refine z_aload_n dX2_pass_17 0 rfl ?_
        obtain ⟨v3, he3, h⟩ := obind h
        refine y_Vi (M := mX2_pass) (Y := mX2_sparksToNextOut) (d2 := d - 1) (As := []) (st := []) dX2_pass_18 mlRX2_64 cv_X2_sparksToNextOut hq0 (ct_Pt_sparksToNextOut (dle (Nat.le_of_ble_eq_true rfl) hd0) hq0 he3) (dps (Nat.le_of_ble_eq_true rfl) hd0) rfl rfl (Nat.le_of_ble_eq_true rfl) ?_
        refine z_istore (M := mX2_pass) (lv2 := [(5, .int v3), (0, .ref x0), (2, .int x2), (3, .int x3), (4, .int x4)]) dX2_pass_21 (Nat.le_of_ble_eq_true rfl) rfl ?_
        refine z_iload dX2_pass_23 0 rfl ?_
        refine z_iconst (M := mX2_pass) (v := -1) dX2_pass_25 rfl ?_
        refine z_icmp_ne 33 dX2_pass_26 rfl (fun hc4 => ?_) (fun hc4 => ?_)
        · replace h := oT hc4 h
          refine z_iload_n dX2_pass_33 3 rfl ?_
          refine z_iload dX2_pass_34 0 rfl ?_
          refine y_mmin dX2_pass_36 mlRX2_69 mw_mmin (Nat.le_trans (Nat.le_of_ble_eq_true rfl) hd0) (Nat.le_of_ble_eq_true rfl) ?_
          refine z_lv (lv2 := [(0, .ref x0), (2, .int x2), (3, .int x3), (4, .int x4)]) [1, 2, 3, 4] rfl ?_
          exact t_Pt_pass_39 hd0 ih x0 x2 x3 x4 (imin x3 v3) ν _ hq0 h
        · replace h := oFn hc4 h
          refine z_iload_n dX2_pass_29 3 rfl ?_
          refine z_goto 39 dX2_pass_30 rfl ?_
          refine z_lv (lv2 := [(0, .ref x0), (2, .int x2), (3, .int x3), (4, .int x4)]) [1, 2, 3, 4] rfl ?_
          exact t_Pt_pass_39 hd0 ih x0 x2 x3 x4 x3 ν _ hq0 h
def Pt_pass (x0 : Nat) (x1 : Int32) (ν : Nm) : Option (Int32 × Nm) :=
  Pt_pass_7 FU x0 (0 : Int32) x1 (0 : Int32) ν
set_option maxRecDepth 100000 in
set_option maxHeartbeats 4000000 in
theorem t_Pt_pass {g : GG} {d : Nat} (hd0 : 4 ≤ d) : ∀ (x0 : Nat) (x1 : Int32) (ν : Nm) (r : (Int32 × Nm)), zk 333 x0 (1, 0) → Pt_pass x0 x1 ν = some r → Z g d (0, 0) mX2_pass 333 0 0 0 [(0, .ref x0), (1, .int x1)] [] (zem ν) (zF g (some (.int r.1), zem r.2)) := by
  intro x0 x1 ν r hq0 h
  unfold Pt_pass at h
  refine z_iconst (M := mX2_pass) (v := 0) dX2_pass_0 rfl ?_
  refine z_istore_n (M := mX2_pass) (lv2 := [(2, .int (0 : Int32)), (0, .ref x0), (1, .int x1)]) dX2_pass_1 (Nat.le_of_ble_eq_true rfl) rfl ?_
  refine z_iload_n dX2_pass_2 2 rfl ?_
  refine z_istore_n (M := mX2_pass) (lv2 := [(3, .int x1), (2, .int (0 : Int32)), (0, .ref x0), (1, .int x1)]) dX2_pass_3 (Nat.le_of_ble_eq_true rfl) rfl ?_
  refine z_iconst (M := mX2_pass) (v := 0) dX2_pass_4 rfl ?_
  refine z_istore (M := mX2_pass) (lv2 := [(4, .int (0 : Int32)), (3, .int x1), (2, .int (0 : Int32)), (0, .ref x0), (1, .int x1)]) dX2_pass_5 (Nat.le_of_ble_eq_true rfl) rfl ?_
  refine z_lv (lv2 := [(0, .ref x0), (2, .int (0 : Int32)), (3, .int x1), (4, .int (0 : Int32))]) [3, 2, 1, 0] rfl ?_
  exact t_Pt_pass_7 hd0 FU x0 (0 : Int32) x1 (0 : Int32) ν _ hq0 h
theorem ct_Pt_pass {g : GG} {d : Nat} {x0 : Nat} {x1 : Int32} {ν : Nm} {r : (Int32 × Nm)} (hd0 : 4 ≤ d) (hq0 : zk 333 x0 (1, 0)) (h : Pt_pass x0 x1 ν = some r) : Ct g d mX2_pass [.ref x0, .int x1] (zem ν) (some (.int r.1), zem r.2) := y_entry in_X2_pass (Nat.le_of_ble_eq_true rfl) rfl (t_Pt_pass hd0 x0 x1 ν r hq0 h)
-- FuseMinutes$Steps.push(LFuseMinutes$Pit;)V
theorem dX5_push_0 : decode cX5_push 0 = .ok (.aload_n 0, 1) := by decide +kernel
theorem dX5_push_1 : decode cX5_push 1 = .ok (.getfield 18, 3) := by decide +kernel
theorem dX5_push_4 : decode cX5_push 4 = .ok (.bipush 30, 2) := by decide +kernel
theorem dX5_push_6 : decode cX5_push 6 = .ok (.if_icmp .ge 16, 3) := by decide +kernel
theorem dX5_push_9 : decode cX5_push 9 = .ok (.aload_n 0, 1) := by decide +kernel
theorem dX5_push_10 : decode cX5_push 10 = .ok (.dup, 1) := by decide +kernel
theorem dX5_push_11 : decode cX5_push 11 = .ok (.getfield 18, 3) := by decide +kernel
theorem dX5_push_14 : decode cX5_push 14 = .ok (.iconst 1, 1) := by decide +kernel
theorem dX5_push_15 : decode cX5_push 15 = .ok (.iadd, 1) := by decide +kernel
theorem dX5_push_16 : decode cX5_push 16 = .ok (.putfield 18, 3) := by decide +kernel
theorem dX5_push_19 : decode cX5_push 19 = .ok (.goto 16, 3) := by decide +kernel
theorem dX5_push_22 : decode cX5_push 22 = .ok (.aload_n 0, 1) := by decide +kernel
theorem dX5_push_23 : decode cX5_push 23 = .ok (.aload_n 0, 1) := by decide +kernel
theorem dX5_push_24 : decode cX5_push 24 = .ok (.getfield 22, 3) := by decide +kernel
theorem dX5_push_27 : decode cX5_push 27 = .ok (.iconst 1, 1) := by decide +kernel
theorem dX5_push_28 : decode cX5_push 28 = .ok (.iadd, 1) := by decide +kernel
theorem dX5_push_29 : decode cX5_push 29 = .ok (.bipush 30, 2) := by decide +kernel
theorem dX5_push_31 : decode cX5_push 31 = .ok (.irem, 1) := by decide +kernel
theorem dX5_push_32 : decode cX5_push 32 = .ok (.putfield 22, 3) := by decide +kernel
theorem dX5_push_35 : decode cX5_push 35 = .ok (.aload_n 0, 1) := by decide +kernel
theorem dX5_push_36 : decode cX5_push 36 = .ok (.getfield 11, 3) := by decide +kernel
theorem dX5_push_39 : decode cX5_push 39 = .ok (.aload_n 0, 1) := by decide +kernel
theorem dX5_push_40 : decode cX5_push 40 = .ok (.getfield 22, 3) := by decide +kernel
theorem dX5_push_43 : decode cX5_push 43 = .ok (.aload_n 0, 1) := by decide +kernel
theorem dX5_push_44 : decode cX5_push 44 = .ok (.getfield 18, 3) := by decide +kernel
theorem dX5_push_47 : decode cX5_push 47 = .ok (.iadd, 1) := by decide +kernel
theorem dX5_push_48 : decode cX5_push 48 = .ok (.iconst 1, 1) := by decide +kernel
theorem dX5_push_49 : decode cX5_push 49 = .ok (.isub, 1) := by decide +kernel
theorem dX5_push_50 : decode cX5_push 50 = .ok (.bipush 30, 2) := by decide +kernel
theorem dX5_push_52 : decode cX5_push 52 = .ok (.irem, 1) := by decide +kernel
theorem dX5_push_53 : decode cX5_push 53 = .ok (.aaload, 1) := by decide +kernel
theorem dX5_push_54 : decode cX5_push 54 = .ok (.aload_n 1, 1) := by decide +kernel
theorem dX5_push_55 : decode cX5_push 55 = .ok (.invokevirtual 25, 3) := by decide +kernel
theorem dX5_push_58 : decode cX5_push 58 = .ok (.return_, 1) := by decide +kernel
def St_push_35 (x0 : Nat) (x1 : Nat) (ν : Nm) : Option Nm :=
  if inb ((((gi ν x0 1) + (gi ν x0 2)) - (1 : Int32)) - (((gi ν x0 1) + (gi ν x0 2)) - (1 : Int32)) / (30 : Int32) * (30 : Int32)) 30 then
  (Pt_copy ((x0 + 1) + 1 + 4 * ((((gi ν x0 1) + (gi ν x0 2)) - (1 : Int32)) - (((gi ν x0 1) + (gi ν x0 2)) - (1 : Int32)) / (30 : Int32) * (30 : Int32)).toNatClampNeg) x1 ν).bind fun v2 =>
  some v2
  else none
set_option maxRecDepth 100000 in
set_option maxHeartbeats 4000000 in
theorem t_St_push_35 {g : GG} {d : Nat} (hd0 : 2 ≤ d) : ∀ (x0 : Nat) (x1 : Nat) (ν : Nm) (r : Nm), zk 333 x0 (4, 0) → zk 333 x1 (1, 0) → St_push_35 x0 x1 ν = some r → Z g d (0, 0) mX5_push 333 0 0 35 [(0, .ref x0), (1, .ref x1)] [] (zem ν) (zF g (none, zem r)) := by
  intro x0 x1 ν r hq0 hq1 h
  unfold St_push_35 at h
  refine z_aload_n dX5_push_35 0 rfl ?_
  refine y_getR (M := mX5_push) (r := (x0 + 1)) dX5_push_36 hq0 flRX5_11 fr_4_0.1 (fr_4_0.2 _) ?_
  refine z_aload_n dX5_push_39 0 rfl ?_
  refine y_getI dX5_push_40 hq0 flRX5_22 ?_
  refine z_aload_n dX5_push_43 0 rfl ?_
  refine y_getI dX5_push_44 hq0 flRX5_18 ?_
  refine z_iadd dX5_push_47 ?_
  refine z_iconst (M := mX5_push) (v := 1) dX5_push_48 rfl ?_
  refine z_isub dX5_push_49 ?_
  refine z_bipush (M := mX5_push) (v := 30) dX5_push_50 rfl ?_
  refine z_irem dX5_push_52 (by decide) ?_
  obtain ⟨hi1, h⟩ := oif h
  refine y_aaldP dX5_push_53 (zko_4_0 hq0) hi1 ?_
  refine z_aload_n dX5_push_54 1 rfl ?_
  obtain ⟨v2, he2, h⟩ := obind h
  refine y_Vv (M := mX5_push) (Y := mX2_copy) (d2 := d - 1) (As := [.ref x1]) (st := []) dX5_push_55 mlRX5_25 cv_X2_copy (zkoP (zko_4_0 hq0) hi1) (ct_Pt_copy (dle (Nat.le_of_ble_eq_true rfl) hd0) (zkoP (zko_4_0 hq0) hi1) hq1 he2) (dps (Nat.le_of_ble_eq_true rfl) hd0) rfl rfl (Nat.le_of_ble_eq_true rfl) ?_
  cases h
  exact z_vret dX5_push_58 rfl
def St_push (x0 : Nat) (x1 : Nat) (ν : Nm) : Option Nm :=
  (if (30 : Int32) ≤ (gi ν x0 2) then
    St_push_35 x0 x1 (si ν x0 1 (((gi ν x0 1) + (1 : Int32)) - ((gi ν x0 1) + (1 : Int32)) / (30 : Int32) * (30 : Int32)))
  else
    St_push_35 x0 x1 (si ν x0 2 ((gi ν x0 2) + (1 : Int32))))
set_option maxRecDepth 100000 in
set_option maxHeartbeats 4000000 in
theorem t_St_push {g : GG} {d : Nat} (hd0 : 2 ≤ d) : ∀ (x0 : Nat) (x1 : Nat) (ν : Nm) (r : Nm), zk 333 x0 (4, 0) → zk 333 x1 (1, 0) → St_push x0 x1 ν = some r → Z g d (0, 0) mX5_push 333 0 0 0 [(0, .ref x0), (1, .ref x1)] [] (zem ν) (zF g (none, zem r)) := by
  intro x0 x1 ν r hq0 hq1 h
  unfold St_push at h
  refine z_aload_n dX5_push_0 0 rfl ?_
  refine y_getI dX5_push_1 hq0 flRX5_18 ?_
  refine z_bipush (M := mX5_push) (v := 30) dX5_push_4 rfl ?_
  refine z_icmp_ge 22 dX5_push_6 rfl (fun hc1 => ?_) (fun hc1 => ?_)
  · replace h := oT hc1 h
    refine z_aload_n dX5_push_22 0 rfl ?_
    refine z_aload_n dX5_push_23 0 rfl ?_
    refine y_getI dX5_push_24 hq0 flRX5_22 ?_
    refine z_iconst (M := mX5_push) (v := 1) dX5_push_27 rfl ?_
    refine z_iadd dX5_push_28 ?_
    refine z_bipush (M := mX5_push) (v := 30) dX5_push_29 rfl ?_
    refine z_irem dX5_push_31 (by decide) ?_
    refine y_putI dX5_push_32 hq0 flRX5_22 ⟨rfl, rfl⟩ ?_
    exact t_St_push_35 hd0  x0 x1 (si ν x0 1 (((gi ν x0 1) + (1 : Int32)) - ((gi ν x0 1) + (1 : Int32)) / (30 : Int32) * (30 : Int32))) _ hq0 hq1 h
  · replace h := oF hc1 h
    refine z_aload_n dX5_push_9 0 rfl ?_
    refine z_dup dX5_push_10 rfl ?_
    refine y_getI dX5_push_11 hq0 flRX5_18 ?_
    refine z_iconst (M := mX5_push) (v := 1) dX5_push_14 rfl ?_
    refine z_iadd dX5_push_15 ?_
    refine y_putI dX5_push_16 hq0 flRX5_18 ⟨rfl, rfl⟩ ?_
    refine z_goto 35 dX5_push_19 rfl ?_
    exact t_St_push_35 hd0  x0 x1 (si ν x0 2 ((gi ν x0 2) + (1 : Int32))) _ hq0 hq1 h
theorem ct_St_push {g : GG} {d : Nat} {x0 : Nat} {x1 : Nat} {ν : Nm} {r : Nm} (hd0 : 2 ≤ d) (hq0 : zk 333 x0 (4, 0)) (hq1 : zk 333 x1 (1, 0)) (h : St_push x0 x1 ν = some r) : Ct g d mX5_push [.ref x0, .ref x1] (zem ν) (none, zem r) := y_entry in_X5_push (Nat.le_of_ble_eq_true rfl) rfl (t_St_push hd0 x0 x1 ν r hq0 hq1 h)
-- FuseMinutes$Steps.pop(LFuseMinutes$Pit;)Z
theorem dX5_pop_0 : decode cX5_pop 0 = .ok (.aload_n 0, 1) := by decide +kernel
theorem dX5_pop_1 : decode cX5_pop 1 = .ok (.getfield 18, 3) := by decide +kernel
theorem dX5_pop_4 : decode cX5_pop 4 = .ok (.ifCond .ne 5, 3) := by decide +kernel
theorem dX5_pop_7 : decode cX5_pop 7 = .ok (.iconst 0, 1) := by decide +kernel
theorem dX5_pop_8 : decode cX5_pop 8 = .ok (.ireturn, 1) := by decide +kernel
theorem dX5_pop_9 : decode cX5_pop 9 = .ok (.aload_n 0, 1) := by decide +kernel
theorem dX5_pop_10 : decode cX5_pop 10 = .ok (.dup, 1) := by decide +kernel
theorem dX5_pop_11 : decode cX5_pop 11 = .ok (.getfield 18, 3) := by decide +kernel
theorem dX5_pop_14 : decode cX5_pop 14 = .ok (.iconst 1, 1) := by decide +kernel
theorem dX5_pop_15 : decode cX5_pop 15 = .ok (.isub, 1) := by decide +kernel
theorem dX5_pop_16 : decode cX5_pop 16 = .ok (.putfield 18, 3) := by decide +kernel
theorem dX5_pop_19 : decode cX5_pop 19 = .ok (.aload_n 1, 1) := by decide +kernel
theorem dX5_pop_20 : decode cX5_pop 20 = .ok (.aload_n 0, 1) := by decide +kernel
theorem dX5_pop_21 : decode cX5_pop 21 = .ok (.getfield 11, 3) := by decide +kernel
theorem dX5_pop_24 : decode cX5_pop 24 = .ok (.aload_n 0, 1) := by decide +kernel
theorem dX5_pop_25 : decode cX5_pop 25 = .ok (.getfield 22, 3) := by decide +kernel
theorem dX5_pop_28 : decode cX5_pop 28 = .ok (.aload_n 0, 1) := by decide +kernel
theorem dX5_pop_29 : decode cX5_pop 29 = .ok (.getfield 18, 3) := by decide +kernel
theorem dX5_pop_32 : decode cX5_pop 32 = .ok (.iadd, 1) := by decide +kernel
theorem dX5_pop_33 : decode cX5_pop 33 = .ok (.bipush 30, 2) := by decide +kernel
theorem dX5_pop_35 : decode cX5_pop 35 = .ok (.irem, 1) := by decide +kernel
theorem dX5_pop_36 : decode cX5_pop 36 = .ok (.aaload, 1) := by decide +kernel
theorem dX5_pop_37 : decode cX5_pop 37 = .ok (.invokevirtual 25, 3) := by decide +kernel
theorem dX5_pop_40 : decode cX5_pop 40 = .ok (.iconst 1, 1) := by decide +kernel
theorem dX5_pop_41 : decode cX5_pop 41 = .ok (.ireturn, 1) := by decide +kernel
def St_pop (x0 : Nat) (x1 : Nat) (ν : Nm) : Option (Bool × Nm) :=
  (if ¬ (gi ν x0 2) = 0 then
    if inb (((gi (si ν x0 2 ((gi ν x0 2) - (1 : Int32))) x0 1) + (gi (si ν x0 2 ((gi ν x0 2) - (1 : Int32))) x0 2)) - ((gi (si ν x0 2 ((gi ν x0 2) - (1 : Int32))) x0 1) + (gi (si ν x0 2 ((gi ν x0 2) - (1 : Int32))) x0 2)) / (30 : Int32) * (30 : Int32)) 30 then
    (Pt_copy x1 ((x0 + 1) + 1 + 4 * (((gi (si ν x0 2 ((gi ν x0 2) - (1 : Int32))) x0 1) + (gi (si ν x0 2 ((gi ν x0 2) - (1 : Int32))) x0 2)) - ((gi (si ν x0 2 ((gi ν x0 2) - (1 : Int32))) x0 1) + (gi (si ν x0 2 ((gi ν x0 2) - (1 : Int32))) x0 2)) / (30 : Int32) * (30 : Int32)).toNatClampNeg) (si ν x0 2 ((gi ν x0 2) - (1 : Int32)))).bind fun v3 =>
    some (true, v3)
    else none
  else
    some (false, ν))
set_option maxRecDepth 100000 in
set_option maxHeartbeats 4000000 in
theorem t_St_pop {g : GG} {d : Nat} (hd0 : 2 ≤ d) : ∀ (x0 : Nat) (x1 : Nat) (ν : Nm) (r : (Bool × Nm)), zk 333 x0 (4, 0) → zk 333 x1 (1, 0) → St_pop x0 x1 ν = some r → Z g d (0, 0) mX5_pop 333 0 0 0 [(0, .ref x0), (1, .ref x1)] [] (zem ν) (zF g (some (.int (b2i r.1)), zem r.2)) := by
  intro x0 x1 ν r hq0 hq1 h
  unfold St_pop at h
  refine z_aload_n dX5_pop_0 0 rfl ?_
  refine y_getI dX5_pop_1 hq0 flRX5_18 ?_
  refine z_if_ne 9 dX5_pop_4 rfl (fun hc1 => ?_) (fun hc1 => ?_)
  · replace h := oT hc1 h
    refine z_aload_n dX5_pop_9 0 rfl ?_
    refine z_dup dX5_pop_10 rfl ?_
    refine y_getI dX5_pop_11 hq0 flRX5_18 ?_
    refine z_iconst (M := mX5_pop) (v := 1) dX5_pop_14 rfl ?_
    refine z_isub dX5_pop_15 ?_
    refine y_putI dX5_pop_16 hq0 flRX5_18 ⟨rfl, rfl⟩ ?_
    refine z_aload_n dX5_pop_19 1 rfl ?_
    refine z_aload_n dX5_pop_20 0 rfl ?_
    refine y_getR (M := mX5_pop) (r := (x0 + 1)) dX5_pop_21 hq0 flRX5_11 fr_4_0.1 (fr_4_0.2 _) ?_
    refine z_aload_n dX5_pop_24 0 rfl ?_
    refine y_getI dX5_pop_25 hq0 flRX5_22 ?_
    refine z_aload_n dX5_pop_28 0 rfl ?_
    refine y_getI dX5_pop_29 hq0 flRX5_18 ?_
    refine z_iadd dX5_pop_32 ?_
    refine z_bipush (M := mX5_pop) (v := 30) dX5_pop_33 rfl ?_
    refine z_irem dX5_pop_35 (by decide) ?_
    obtain ⟨hi2, h⟩ := oif h
    refine y_aaldP dX5_pop_36 (zko_4_0 hq0) hi2 ?_
    obtain ⟨v3, he3, h⟩ := obind h
    refine y_Vv (M := mX5_pop) (Y := mX2_copy) (d2 := d - 1) (As := [.ref ((x0 + 1) + 1 + 4 * (((gi (si ν x0 2 ((gi ν x0 2) - (1 : Int32))) x0 1) + (gi (si ν x0 2 ((gi ν x0 2) - (1 : Int32))) x0 2)) - ((gi (si ν x0 2 ((gi ν x0 2) - (1 : Int32))) x0 1) + (gi (si ν x0 2 ((gi ν x0 2) - (1 : Int32))) x0 2)) / (30 : Int32) * (30 : Int32)).toNatClampNeg)]) (st := []) dX5_pop_37 mlRX5_25 cv_X2_copy hq1 (ct_Pt_copy (dle (Nat.le_of_ble_eq_true rfl) hd0) hq1 (zkoP (zko_4_0 hq0) hi2) he3) (dps (Nat.le_of_ble_eq_true rfl) hd0) rfl rfl (Nat.le_of_ble_eq_true rfl) ?_
    refine z_iconst (M := mX5_pop) (v := 1) dX5_pop_40 rfl ?_
    cases h
    exact z_zret dX5_pop_41 rfl rfl
  · replace h := oFn hc1 h
    refine z_iconst (M := mX5_pop) (v := 0) dX5_pop_7 rfl ?_
    cases h
    exact z_zret dX5_pop_8 rfl rfl
theorem ct_St_pop {g : GG} {d : Nat} {x0 : Nat} {x1 : Nat} {ν : Nm} {r : (Bool × Nm)} (hd0 : 2 ≤ d) (hq0 : zk 333 x0 (4, 0)) (hq1 : zk 333 x1 (1, 0)) (h : St_pop x0 x1 ν = some r) : Ct g d mX5_pop [.ref x0, .ref x1] (zem ν) (some (.int (b2i r.1)), zem r.2) := y_entry in_X5_pop (Nat.le_of_ble_eq_true rfl) rfl (t_St_pop hd0 x0 x1 ν r hq0 hq1 h)
-- FuseMinutes$Steps.copy(LFuseMinutes$Steps;)V
theorem dX5_copy_0 : decode cX5_copy 0 = .ok (.aload_n 0, 1) := by decide +kernel
theorem dX5_copy_1 : decode cX5_copy 1 = .ok (.aload_n 1, 1) := by decide +kernel
theorem dX5_copy_2 : decode cX5_copy 2 = .ok (.getfield 22, 3) := by decide +kernel
theorem dX5_copy_5 : decode cX5_copy 5 = .ok (.putfield 22, 3) := by decide +kernel
theorem dX5_copy_8 : decode cX5_copy 8 = .ok (.aload_n 0, 1) := by decide +kernel
theorem dX5_copy_9 : decode cX5_copy 9 = .ok (.aload_n 1, 1) := by decide +kernel
theorem dX5_copy_10 : decode cX5_copy 10 = .ok (.getfield 18, 3) := by decide +kernel
theorem dX5_copy_13 : decode cX5_copy 13 = .ok (.putfield 18, 3) := by decide +kernel
theorem dX5_copy_16 : decode cX5_copy 16 = .ok (.iconst 0, 1) := by decide +kernel
theorem dX5_copy_17 : decode cX5_copy 17 = .ok (.istore_n 2, 1) := by decide +kernel
theorem dX5_copy_18 : decode cX5_copy 18 = .ok (.iload_n 2, 1) := by decide +kernel
theorem dX5_copy_19 : decode cX5_copy 19 = .ok (.aload_n 0, 1) := by decide +kernel
theorem dX5_copy_20 : decode cX5_copy 20 = .ok (.getfield 18, 3) := by decide +kernel
theorem dX5_copy_23 : decode cX5_copy 23 = .ok (.if_icmp .ge 40, 3) := by decide +kernel
theorem dX5_copy_26 : decode cX5_copy 26 = .ok (.iload_n 2, 1) := by decide +kernel
theorem dX5_copy_27 : decode cX5_copy 27 = .ok (.bipush 30, 2) := by decide +kernel
theorem dX5_copy_29 : decode cX5_copy 29 = .ok (.if_icmp .ge 34, 3) := by decide +kernel
theorem dX5_copy_32 : decode cX5_copy 32 = .ok (.aload_n 0, 1) := by decide +kernel
theorem dX5_copy_33 : decode cX5_copy 33 = .ok (.getfield 22, 3) := by decide +kernel
theorem dX5_copy_36 : decode cX5_copy 36 = .ok (.iload_n 2, 1) := by decide +kernel
theorem dX5_copy_37 : decode cX5_copy 37 = .ok (.iadd, 1) := by decide +kernel
theorem dX5_copy_38 : decode cX5_copy 38 = .ok (.bipush 30, 2) := by decide +kernel
theorem dX5_copy_40 : decode cX5_copy 40 = .ok (.irem, 1) := by decide +kernel
theorem dX5_copy_41 : decode cX5_copy 41 = .ok (.istore_n 3, 1) := by decide +kernel
theorem dX5_copy_42 : decode cX5_copy 42 = .ok (.aload_n 0, 1) := by decide +kernel
theorem dX5_copy_43 : decode cX5_copy 43 = .ok (.getfield 11, 3) := by decide +kernel
theorem dX5_copy_46 : decode cX5_copy 46 = .ok (.iload_n 3, 1) := by decide +kernel
theorem dX5_copy_47 : decode cX5_copy 47 = .ok (.aaload, 1) := by decide +kernel
theorem dX5_copy_48 : decode cX5_copy 48 = .ok (.aload_n 1, 1) := by decide +kernel
theorem dX5_copy_49 : decode cX5_copy 49 = .ok (.getfield 11, 3) := by decide +kernel
theorem dX5_copy_52 : decode cX5_copy 52 = .ok (.iload_n 3, 1) := by decide +kernel
theorem dX5_copy_53 : decode cX5_copy 53 = .ok (.aaload, 1) := by decide +kernel
theorem dX5_copy_54 : decode cX5_copy 54 = .ok (.invokevirtual 25, 3) := by decide +kernel
theorem dX5_copy_57 : decode cX5_copy 57 = .ok (.iinc 2 1, 3) := by decide +kernel
theorem dX5_copy_60 : decode cX5_copy 60 = .ok (.goto (-42), 3) := by decide +kernel
theorem dX5_copy_63 : decode cX5_copy 63 = .ok (.return_, 1) := by decide +kernel
def St_copy_18 : Nat → Nat → Nat → Int32 → Nm → Option Nm
  | 0, _, _, _, _ => none
  | f + 1, x0, x1, x2, ν =>
    (if (gi ν x0 2) ≤ x2 then
      some ν
    else
      (if (30 : Int32) ≤ x2 then
        some ν
      else
        if inb (((gi ν x0 1) + x2) - ((gi ν x0 1) + x2) / (30 : Int32) * (30 : Int32)) 30 then
        if inb (((gi ν x0 1) + x2) - ((gi ν x0 1) + x2) / (30 : Int32) * (30 : Int32)) 30 then
        (Pt_copy ((x0 + 1) + 1 + 4 * (((gi ν x0 1) + x2) - ((gi ν x0 1) + x2) / (30 : Int32) * (30 : Int32)).toNatClampNeg) ((x1 + 1) + 1 + 4 * (((gi ν x0 1) + x2) - ((gi ν x0 1) + x2) / (30 : Int32) * (30 : Int32)).toNatClampNeg) ν).bind fun v5 =>
        (St_copy_18 f) x0 x1 (x2 + (1 : Int32)) v5
        else none
        else none))
set_option maxRecDepth 100000 in
set_option maxHeartbeats 4000000 in
theorem t_St_copy_18 {g : GG} {d : Nat} (hd0 : 2 ≤ d) : ∀ (f : Nat), ∀ (x0 : Nat) (x1 : Nat) (x2 : Int32) (ν : Nm) (r : Nm), zk 333 x0 (4, 0) → zk 333 x1 (4, 0) → St_copy_18 f x0 x1 x2 ν = some r → Z g d (0, 0) mX5_copy 333 0 0 18 [(0, .ref x0), (1, .ref x1), (2, .int x2)] [] (zem ν) (zF g (none, zem r)) := by
  intro f
  induction f with
  | zero =>
    intro x0 x1 x2 ν r hq0 hq1 h
    cases h
  | succ f ih =>
    intro x0 x1 x2 ν r hq0 hq1 h
    rw [St_copy_18] at h
    refine z_iload_n dX5_copy_18 2 rfl ?_
    refine z_aload_n dX5_copy_19 0 rfl ?_
    refine y_getI dX5_copy_20 hq0 flRX5_18 ?_
    refine z_icmp_ge 63 dX5_copy_23 rfl (fun hc1 => ?_) (fun hc1 => ?_)
    · replace h := oT hc1 h
      cases h
      exact z_vret dX5_copy_63 rfl
    · replace h := oF hc1 h
      refine z_iload_n dX5_copy_26 2 rfl ?_
      refine z_bipush (M := mX5_copy) (v := 30) dX5_copy_27 rfl ?_
      refine z_icmp_ge 63 dX5_copy_29 rfl (fun hc2 => ?_) (fun hc2 => ?_)
      · replace h := oT hc2 h
        cases h
        exact z_vret dX5_copy_63 rfl
      · replace h := oF hc2 h
        refine z_aload_n dX5_copy_32 0 rfl ?_
        refine y_getI dX5_copy_33 hq0 flRX5_22 ?_
        refine z_iload_n dX5_copy_36 2 rfl ?_
        refine z_iadd dX5_copy_37 ?_
        refine z_bipush (M := mX5_copy) (v := 30) dX5_copy_38 rfl ?_
        refine z_irem dX5_copy_40 (by decide) ?_
        refine z_istore_n (M := mX5_copy) (lv2 := [(3, .int (((gi ν x0 1) + x2) - ((gi ν x0 1) + x2) / (30 : Int32) * (30 : Int32))), (0, .ref x0), (1, .ref x1), (2, .int x2)]) dX5_copy_41 (Nat.le_of_ble_eq_true rfl) rfl ?_
        refine z_aload_n dX5_copy_42 1 rfl ?_
        refine y_getR (M := mX5_copy) (r := (x0 + 1)) dX5_copy_43 hq0 flRX5_11 fr_4_0.1 (fr_4_0.2 _) ?_
        refine z_iload_n dX5_copy_46 0 rfl ?_
        obtain ⟨hi3, h⟩ := oif h
        refine y_aaldP dX5_copy_47 (zko_4_0 hq0) hi3 ?_
        refine z_aload_n dX5_copy_48 2 rfl ?_
        refine y_getR (M := mX5_copy) (r := (x1 + 1)) dX5_copy_49 hq1 flRX5_11 fr_4_0.1 (fr_4_0.2 _) ?_
        refine z_iload_n dX5_copy_52 0 rfl ?_
        obtain ⟨hi4, h⟩ := oif h
        refine y_aaldP dX5_copy_53 (zko_4_0 hq1) hi4 ?_
        obtain ⟨v5, he5, h⟩ := obind h
        refine y_Vv (M := mX5_copy) (Y := mX2_copy) (d2 := d - 1) (As := [.ref ((x1 + 1) + 1 + 4 * (((gi ν x0 1) + x2) - ((gi ν x0 1) + x2) / (30 : Int32) * (30 : Int32)).toNatClampNeg)]) (st := []) dX5_copy_54 mlRX5_25 cv_X2_copy (zkoP (zko_4_0 hq0) hi3) (ct_Pt_copy (dle (Nat.le_of_ble_eq_true rfl) hd0) (zkoP (zko_4_0 hq0) hi3) (zkoP (zko_4_0 hq1) hi4) he5) (dps (Nat.le_of_ble_eq_true rfl) hd0) rfl rfl (Nat.le_of_ble_eq_true rfl) ?_
        refine z_iinc (M := mX5_copy) (v := (x2 + (1 : Int32))) (lv2 := [(2, .int (x2 + (1 : Int32))), (3, .int (((gi ν x0 1) + x2) - ((gi ν x0 1) + x2) / (30 : Int32) * (30 : Int32))), (0, .ref x0), (1, .ref x1)]) dX5_copy_57 3 rfl rfl (Nat.le_of_ble_eq_true rfl) rfl ?_
        refine z_goto 18 dX5_copy_60 rfl ?_
        refine z_lv (lv2 := [(0, .ref x0), (1, .ref x1), (2, .int (x2 + (1 : Int32)))]) [2, 3, 0] rfl ?_
        exact ih x0 x1 (x2 + (1 : Int32)) v5 _ hq0 hq1 h
def St_copy (x0 : Nat) (x1 : Nat) (ν : Nm) : Option Nm :=
  St_copy_18 FU x0 x1 (0 : Int32) (si (si ν x0 1 (gi ν x1 1)) x0 2 (gi (si ν x0 1 (gi ν x1 1)) x1 2))
set_option maxRecDepth 100000 in
set_option maxHeartbeats 4000000 in
theorem t_St_copy {g : GG} {d : Nat} (hd0 : 2 ≤ d) : ∀ (x0 : Nat) (x1 : Nat) (ν : Nm) (r : Nm), zk 333 x0 (4, 0) → zk 333 x1 (4, 0) → St_copy x0 x1 ν = some r → Z g d (0, 0) mX5_copy 333 0 0 0 [(0, .ref x0), (1, .ref x1)] [] (zem ν) (zF g (none, zem r)) := by
  intro x0 x1 ν r hq0 hq1 h
  unfold St_copy at h
  refine z_aload_n dX5_copy_0 0 rfl ?_
  refine z_aload_n dX5_copy_1 1 rfl ?_
  refine y_getI dX5_copy_2 hq1 flRX5_22 ?_
  refine y_putI dX5_copy_5 hq0 flRX5_22 ⟨rfl, rfl⟩ ?_
  refine z_aload_n dX5_copy_8 0 rfl ?_
  refine z_aload_n dX5_copy_9 1 rfl ?_
  refine y_getI dX5_copy_10 hq1 flRX5_18 ?_
  refine y_putI dX5_copy_13 hq0 flRX5_18 ⟨rfl, rfl⟩ ?_
  refine z_iconst (M := mX5_copy) (v := 0) dX5_copy_16 rfl ?_
  refine z_istore_n (M := mX5_copy) (lv2 := [(2, .int (0 : Int32)), (0, .ref x0), (1, .ref x1)]) dX5_copy_17 (Nat.le_of_ble_eq_true rfl) rfl ?_
  refine z_lv (lv2 := [(0, .ref x0), (1, .ref x1), (2, .int (0 : Int32))]) [1, 2, 0] rfl ?_
  exact t_St_copy_18 hd0 FU x0 x1 (0 : Int32) (si (si ν x0 1 (gi ν x1 1)) x0 2 (gi (si ν x0 1 (gi ν x1 1)) x1 2)) _ hq0 hq1 h
theorem ct_St_copy {g : GG} {d : Nat} {x0 : Nat} {x1 : Nat} {ν : Nm} {r : Nm} (hd0 : 2 ≤ d) (hq0 : zk 333 x0 (4, 0)) (hq1 : zk 333 x1 (4, 0)) (h : St_copy x0 x1 ν = some r) : Ct g d mX5_copy [.ref x0, .ref x1] (zem ν) (none, zem r) := y_entry in_X5_copy (Nat.le_of_ble_eq_true rfl) rfl (t_St_copy hd0 x0 x1 ν r hq0 hq1 h)
-- FuseMinutes$Told.copy(LFuseMinutes$Told;)V
theorem dX10_copy_0 : decode cX10_copy 0 = .ok (.aload_n 0, 1) := by decide +kernel
theorem dX10_copy_1 : decode cX10_copy 1 = .ok (.aload_n 1, 1) := by decide +kernel
theorem dX10_copy_2 : decode cX10_copy 2 = .ok (.getfield 13, 3) := by decide +kernel
theorem dX10_copy_5 : decode cX10_copy 5 = .ok (.putfield 13, 3) := by decide +kernel
theorem dX10_copy_8 : decode cX10_copy 8 = .ok (.iconst 0, 1) := by decide +kernel
theorem dX10_copy_9 : decode cX10_copy 9 = .ok (.istore_n 2, 1) := by decide +kernel
theorem dX10_copy_10 : decode cX10_copy 10 = .ok (.iload_n 2, 1) := by decide +kernel
theorem dX10_copy_11 : decode cX10_copy 11 = .ok (.aload_n 0, 1) := by decide +kernel
theorem dX10_copy_12 : decode cX10_copy 12 = .ok (.getfield 7, 3) := by decide +kernel
theorem dX10_copy_15 : decode cX10_copy 15 = .ok (.arraylength, 1) := by decide +kernel
theorem dX10_copy_16 : decode cX10_copy 16 = .ok (.if_icmp .ge 30, 3) := by decide +kernel
theorem dX10_copy_19 : decode cX10_copy 19 = .ok (.iload_n 2, 1) := by decide +kernel
theorem dX10_copy_20 : decode cX10_copy 20 = .ok (.aload_n 1, 1) := by decide +kernel
theorem dX10_copy_21 : decode cX10_copy 21 = .ok (.getfield 7, 3) := by decide +kernel
theorem dX10_copy_24 : decode cX10_copy 24 = .ok (.arraylength, 1) := by decide +kernel
theorem dX10_copy_25 : decode cX10_copy 25 = .ok (.if_icmp .ge 21, 3) := by decide +kernel
theorem dX10_copy_28 : decode cX10_copy 28 = .ok (.aload_n 0, 1) := by decide +kernel
theorem dX10_copy_29 : decode cX10_copy 29 = .ok (.getfield 7, 3) := by decide +kernel
theorem dX10_copy_32 : decode cX10_copy 32 = .ok (.iload_n 2, 1) := by decide +kernel
theorem dX10_copy_33 : decode cX10_copy 33 = .ok (.aload_n 1, 1) := by decide +kernel
theorem dX10_copy_34 : decode cX10_copy 34 = .ok (.getfield 7, 3) := by decide +kernel
theorem dX10_copy_37 : decode cX10_copy 37 = .ok (.iload_n 2, 1) := by decide +kernel
theorem dX10_copy_38 : decode cX10_copy 38 = .ok (.iaload, 1) := by decide +kernel
theorem dX10_copy_39 : decode cX10_copy 39 = .ok (.iastore, 1) := by decide +kernel
theorem dX10_copy_40 : decode cX10_copy 40 = .ok (.iinc 2 1, 3) := by decide +kernel
theorem dX10_copy_43 : decode cX10_copy 43 = .ok (.goto (-33), 3) := by decide +kernel
theorem dX10_copy_46 : decode cX10_copy 46 = .ok (.return_, 1) := by decide +kernel
def To_copy_10 : Nat → Nat → Nat → Int32 → Nm → Option Nm
  | 0, _, _, _, _ => none
  | f + 1, x0, x1, x2, ν =>
    (if (Int32.ofNat (tl x0)) ≤ x2 then
      some ν
    else
      (if (Int32.ofNat (tl x1)) ≤ x2 then
        some ν
      else
        if inb x2 (tl x1) then
        if inb x2 (tl x0) then
        (To_copy_10 f) x0 x1 (x2 + (1 : Int32)) (si ν (x0 + 1) x2.toNatClampNeg (gi ν (x1 + 1) x2.toNatClampNeg))
        else none
        else none))
set_option maxRecDepth 100000 in
set_option maxHeartbeats 4000000 in
theorem t_To_copy_10 {g : GG} {d : Nat} (hd0 : 1 ≤ d) : ∀ (f : Nat), ∀ (x0 : Nat) (x1 : Nat) (x2 : Int32) (ν : Nm) (r : Nm), zk 333 x0 (8, 0) → zk 333 x1 (8, 0) → To_copy_10 f x0 x1 x2 ν = some r → Z g d (0, 0) mX10_copy 333 0 0 10 [(0, .ref x0), (1, .ref x1), (2, .int x2)] [] (zem ν) (zF g (none, zem r)) := by
  intro f
  induction f with
  | zero =>
    intro x0 x1 x2 ν r hq0 hq1 h
    cases h
  | succ f ih =>
    intro x0 x1 x2 ν r hq0 hq1 h
    rw [To_copy_10] at h
    refine z_iload_n dX10_copy_10 2 rfl ?_
    refine z_aload_n dX10_copy_11 0 rfl ?_
    refine y_getR (M := mX10_copy) (r := (x0 + 1)) dX10_copy_12 hq0 flRX10_7 fr_8_0.1 (fr_8_0.2 _) ?_
    refine z_alen (M := mX10_copy) (v := (Int32.ofNat (tl x0))) dX10_copy_15 (zko_8_0 hq0) rfl ?_
    refine z_icmp_ge 46 dX10_copy_16 rfl (fun hc1 => ?_) (fun hc1 => ?_)
    · replace h := oT hc1 h
      cases h
      exact z_vret dX10_copy_46 rfl
    · replace h := oF hc1 h
      refine z_iload_n dX10_copy_19 2 rfl ?_
      refine z_aload_n dX10_copy_20 1 rfl ?_
      refine y_getR (M := mX10_copy) (r := (x1 + 1)) dX10_copy_21 hq1 flRX10_7 fr_8_0.1 (fr_8_0.2 _) ?_
      refine z_alen (M := mX10_copy) (v := (Int32.ofNat (tl x1))) dX10_copy_24 (zko_8_0 hq1) rfl ?_
      refine z_icmp_ge 46 dX10_copy_25 rfl (fun hc2 => ?_) (fun hc2 => ?_)
      · replace h := oT hc2 h
        cases h
        exact z_vret dX10_copy_46 rfl
      · replace h := oF hc2 h
        refine z_aload_n dX10_copy_28 0 rfl ?_
        refine y_getR (M := mX10_copy) (r := (x0 + 1)) dX10_copy_29 hq0 flRX10_7 fr_8_0.1 (fr_8_0.2 _) ?_
        refine z_iload_n dX10_copy_32 2 rfl ?_
        refine z_aload_n dX10_copy_33 1 rfl ?_
        refine y_getR (M := mX10_copy) (r := (x1 + 1)) dX10_copy_34 hq1 flRX10_7 fr_8_0.1 (fr_8_0.2 _) ?_
        refine z_iload_n dX10_copy_37 2 rfl ?_
        obtain ⟨hi3, h⟩ := oif h
        refine y_iald (M := mX10_copy) (jj := x2.toNatClampNeg) dX10_copy_38 (zko_8_0 hq1) hi3 rfl ?_
        obtain ⟨hi4, h⟩ := oif h
        refine y_iast (M := mX10_copy) (jj := x2.toNatClampNeg) dX10_copy_39 (zko_8_0 hq0) hi4 rfl ?_
        refine z_iinc (M := mX10_copy) (v := (x2 + (1 : Int32))) (lv2 := [(2, .int (x2 + (1 : Int32))), (0, .ref x0), (1, .ref x1)]) dX10_copy_40 2 rfl rfl (Nat.le_of_ble_eq_true rfl) rfl ?_
        refine z_goto 10 dX10_copy_43 rfl ?_
        refine z_lv (lv2 := [(0, .ref x0), (1, .ref x1), (2, .int (x2 + (1 : Int32)))]) [1, 2, 0] rfl ?_
        exact ih x0 x1 (x2 + (1 : Int32)) (si ν (x0 + 1) x2.toNatClampNeg (gi ν (x1 + 1) x2.toNatClampNeg)) _ hq0 hq1 h
def To_copy (x0 : Nat) (x1 : Nat) (ν : Nm) : Option Nm :=
  To_copy_10 FU x0 x1 (0 : Int32) (si ν x0 1 (gi ν x1 1))
set_option maxRecDepth 100000 in
set_option maxHeartbeats 4000000 in
theorem t_To_copy {g : GG} {d : Nat} (hd0 : 1 ≤ d) : ∀ (x0 : Nat) (x1 : Nat) (ν : Nm) (r : Nm), zk 333 x0 (8, 0) → zk 333 x1 (8, 0) → To_copy x0 x1 ν = some r → Z g d (0, 0) mX10_copy 333 0 0 0 [(0, .ref x0), (1, .ref x1)] [] (zem ν) (zF g (none, zem r)) := by
  intro x0 x1 ν r hq0 hq1 h
  unfold To_copy at h
  refine z_aload_n dX10_copy_0 0 rfl ?_
  refine z_aload_n dX10_copy_1 1 rfl ?_
  refine y_getI dX10_copy_2 hq1 flRX10_13 ?_
  refine y_putI dX10_copy_5 hq0 flRX10_13 ⟨rfl, rfl⟩ ?_
  refine z_iconst (M := mX10_copy) (v := 0) dX10_copy_8 rfl ?_
  refine z_istore_n (M := mX10_copy) (lv2 := [(2, .int (0 : Int32)), (0, .ref x0), (1, .ref x1)]) dX10_copy_9 (Nat.le_of_ble_eq_true rfl) rfl ?_
  refine z_lv (lv2 := [(0, .ref x0), (1, .ref x1), (2, .int (0 : Int32))]) [1, 2, 0] rfl ?_
  exact t_To_copy_10 hd0 FU x0 x1 (0 : Int32) (si ν x0 1 (gi ν x1 1)) _ hq0 hq1 h
theorem ct_To_copy {g : GG} {d : Nat} {x0 : Nat} {x1 : Nat} {ν : Nm} {r : Nm} (hd0 : 1 ≤ d) (hq0 : zk 333 x0 (8, 0)) (hq1 : zk 333 x1 (8, 0)) (h : To_copy x0 x1 ν = some r) : Ct g d mX10_copy [.ref x0, .ref x1] (zem ν) (none, zem r) := y_entry in_X10_copy (Nat.le_of_ble_eq_true rfl) rfl (t_To_copy hd0 x0 x1 ν r hq0 hq1 h)
-- FuseMinutes$Store.copy(LFuseMinutes$Store;)V
theorem dX6_copy_0 : decode cX6_copy 0 = .ok (.aload_n 0, 1) := by decide +kernel
theorem dX6_copy_1 : decode cX6_copy 1 = .ok (.getfield 12, 3) := by decide +kernel
theorem dX6_copy_4 : decode cX6_copy 4 = .ok (.aload_n 1, 1) := by decide +kernel
theorem dX6_copy_5 : decode cX6_copy 5 = .ok (.getfield 12, 3) := by decide +kernel
theorem dX6_copy_8 : decode cX6_copy 8 = .ok (.invokevirtual 54, 3) := by decide +kernel
theorem dX6_copy_11 : decode cX6_copy 11 = .ok (.aload_n 0, 1) := by decide +kernel
theorem dX6_copy_12 : decode cX6_copy 12 = .ok (.getfield 21, 3) := by decide +kernel
theorem dX6_copy_15 : decode cX6_copy 15 = .ok (.aload_n 1, 1) := by decide +kernel
theorem dX6_copy_16 : decode cX6_copy 16 = .ok (.getfield 21, 3) := by decide +kernel
theorem dX6_copy_19 : decode cX6_copy 19 = .ok (.invokevirtual 58, 3) := by decide +kernel
theorem dX6_copy_22 : decode cX6_copy 22 = .ok (.aload_n 1, 1) := by decide +kernel
theorem dX6_copy_23 : decode cX6_copy 23 = .ok (.getfield 25, 3) := by decide +kernel
theorem dX6_copy_26 : decode cX6_copy 26 = .ok (.iconst 0, 1) := by decide +kernel
theorem dX6_copy_27 : decode cX6_copy 27 = .ok (.aload_n 0, 1) := by decide +kernel
theorem dX6_copy_28 : decode cX6_copy 28 = .ok (.getfield 25, 3) := by decide +kernel
theorem dX6_copy_31 : decode cX6_copy 31 = .ok (.iconst 0, 1) := by decide +kernel
theorem dX6_copy_32 : decode cX6_copy 32 = .ok (.iconst 4, 1) := by decide +kernel
theorem dX6_copy_33 : decode cX6_copy 33 = .ok (.invokestatic 61, 3) := by decide +kernel
theorem dX6_copy_36 : decode cX6_copy 36 = .ok (.aload_n 1, 1) := by decide +kernel
theorem dX6_copy_37 : decode cX6_copy 37 = .ok (.getfield 29, 3) := by decide +kernel
theorem dX6_copy_40 : decode cX6_copy 40 = .ok (.iconst 0, 1) := by decide +kernel
theorem dX6_copy_41 : decode cX6_copy 41 = .ok (.aload_n 0, 1) := by decide +kernel
theorem dX6_copy_42 : decode cX6_copy 42 = .ok (.getfield 29, 3) := by decide +kernel
theorem dX6_copy_45 : decode cX6_copy 45 = .ok (.iconst 0, 1) := by decide +kernel
theorem dX6_copy_46 : decode cX6_copy 46 = .ok (.iconst 4, 1) := by decide +kernel
theorem dX6_copy_47 : decode cX6_copy 47 = .ok (.invokestatic 61, 3) := by decide +kernel
theorem dX6_copy_50 : decode cX6_copy 50 = .ok (.aload_n 0, 1) := by decide +kernel
theorem dX6_copy_51 : decode cX6_copy 51 = .ok (.aload_n 1, 1) := by decide +kernel
theorem dX6_copy_52 : decode cX6_copy 52 = .ok (.getfield 67, 3) := by decide +kernel
theorem dX6_copy_55 : decode cX6_copy 55 = .ok (.putfield 67, 3) := by decide +kernel
theorem dX6_copy_58 : decode cX6_copy 58 = .ok (.aload_n 0, 1) := by decide +kernel
theorem dX6_copy_59 : decode cX6_copy 59 = .ok (.aload_n 1, 1) := by decide +kernel
theorem dX6_copy_60 : decode cX6_copy 60 = .ok (.getfield 32, 3) := by decide +kernel
theorem dX6_copy_63 : decode cX6_copy 63 = .ok (.putfield 32, 3) := by decide +kernel
theorem dX6_copy_66 : decode cX6_copy 66 = .ok (.aload_n 0, 1) := by decide +kernel
theorem dX6_copy_67 : decode cX6_copy 67 = .ok (.aload_n 1, 1) := by decide +kernel
theorem dX6_copy_68 : decode cX6_copy 68 = .ok (.getfield 70, 3) := by decide +kernel
theorem dX6_copy_71 : decode cX6_copy 71 = .ok (.putfield 70, 3) := by decide +kernel
theorem dX6_copy_74 : decode cX6_copy 74 = .ok (.aload_n 0, 1) := by decide +kernel
theorem dX6_copy_75 : decode cX6_copy 75 = .ok (.aload_n 1, 1) := by decide +kernel
theorem dX6_copy_76 : decode cX6_copy 76 = .ok (.getfield 36, 3) := by decide +kernel
theorem dX6_copy_79 : decode cX6_copy 79 = .ok (.putfield 36, 3) := by decide +kernel
theorem dX6_copy_82 : decode cX6_copy 82 = .ok (.aload_n 0, 1) := by decide +kernel
theorem dX6_copy_83 : decode cX6_copy 83 = .ok (.getfield 44, 3) := by decide +kernel
theorem dX6_copy_86 : decode cX6_copy 86 = .ok (.aload_n 1, 1) := by decide +kernel
theorem dX6_copy_87 : decode cX6_copy 87 = .ok (.getfield 44, 3) := by decide +kernel
theorem dX6_copy_90 : decode cX6_copy 90 = .ok (.invokevirtual 73, 3) := by decide +kernel
theorem dX6_copy_93 : decode cX6_copy 93 = .ok (.aload_n 0, 1) := by decide +kernel
theorem dX6_copy_94 : decode cX6_copy 94 = .ok (.getfield 48, 3) := by decide +kernel
theorem dX6_copy_97 : decode cX6_copy 97 = .ok (.aload_n 1, 1) := by decide +kernel
theorem dX6_copy_98 : decode cX6_copy 98 = .ok (.getfield 48, 3) := by decide +kernel
theorem dX6_copy_101 : decode cX6_copy 101 = .ok (.invokevirtual 73, 3) := by decide +kernel
theorem dX6_copy_104 : decode cX6_copy 104 = .ok (.aload_n 0, 1) := by decide +kernel
theorem dX6_copy_105 : decode cX6_copy 105 = .ok (.getfield 51, 3) := by decide +kernel
theorem dX6_copy_108 : decode cX6_copy 108 = .ok (.aload_n 1, 1) := by decide +kernel
theorem dX6_copy_109 : decode cX6_copy 109 = .ok (.getfield 51, 3) := by decide +kernel
theorem dX6_copy_112 : decode cX6_copy 112 = .ok (.invokevirtual 73, 3) := by decide +kernel
theorem dX6_copy_115 : decode cX6_copy 115 = .ok (.return_, 1) := by decide +kernel
def So_copy_66 (x0 : Nat) (x1 : Nat) (ν : Nm) : Option Nm :=
  (To_copy (x0 + 129) (x1 + 129) (si (si ν x0 6 (gi ν x1 6)) x0 7 (gi (si ν x0 6 (gi ν x1 6)) x1 7))).bind fun v1 =>
  (To_copy (x0 + 131) (x1 + 131) v1).bind fun v2 =>
  (To_copy (x0 + 133) (x1 + 133) v2).bind fun v3 =>
  some v3
set_option maxRecDepth 100000 in
set_option maxHeartbeats 4000000 in
theorem t_So_copy_66 {g : GG} {d : Nat} (hd0 : 3 ≤ d) : ∀ (x0 : Nat) (x1 : Nat) (ν : Nm) (r : Nm), zk 333 x0 (5, 0) → zk 333 x1 (5, 0) → So_copy_66 x0 x1 ν = some r → Z g d (0, 0) mX6_copy 333 0 0 66 [(0, .ref x0), (1, .ref x1)] [] (zem ν) (zF g (none, zem r)) := by
  intro x0 x1 ν r hq0 hq1 h
  unfold So_copy_66 at h
  refine z_aload_n dX6_copy_66 0 rfl ?_
  refine z_aload_n dX6_copy_67 1 rfl ?_
  refine y_getI dX6_copy_68 hq1 flRX6_70 ?_
  refine y_putI dX6_copy_71 hq0 flRX6_70 ⟨rfl, rfl⟩ ?_
  refine z_aload_n dX6_copy_74 0 rfl ?_
  refine z_aload_n dX6_copy_75 1 rfl ?_
  refine y_getI dX6_copy_76 hq1 flRX6_36 ?_
  refine y_putI dX6_copy_79 hq0 flRX6_36 ⟨rfl, rfl⟩ ?_
  refine z_aload_n dX6_copy_82 0 rfl ?_
  refine y_getR (M := mX6_copy) (r := (x0 + 129)) dX6_copy_83 hq0 flRX6_44 fr_5_8.1 (fr_5_8.2 _) ?_
  refine z_aload_n dX6_copy_86 1 rfl ?_
  refine y_getR (M := mX6_copy) (r := (x1 + 129)) dX6_copy_87 hq1 flRX6_44 fr_5_8.1 (fr_5_8.2 _) ?_
  obtain ⟨v1, he1, h⟩ := obind h
  refine y_Vv (M := mX6_copy) (Y := mX10_copy) (d2 := d - 1) (As := [.ref (x1 + 129)]) (st := []) dX6_copy_90 mlRX6_73 cv_X10_copy (zko_5_8 hq0) (ct_To_copy (dle (Nat.le_of_ble_eq_true rfl) hd0) (zko_5_8 hq0) (zko_5_8 hq1) he1) (dps (Nat.le_of_ble_eq_true rfl) hd0) rfl rfl (Nat.le_of_ble_eq_true rfl) ?_
  refine z_aload_n dX6_copy_93 0 rfl ?_
  refine y_getR (M := mX6_copy) (r := (x0 + 131)) dX6_copy_94 hq0 flRX6_48 fr_5_9.1 (fr_5_9.2 _) ?_
  refine z_aload_n dX6_copy_97 1 rfl ?_
  refine y_getR (M := mX6_copy) (r := (x1 + 131)) dX6_copy_98 hq1 flRX6_48 fr_5_9.1 (fr_5_9.2 _) ?_
  obtain ⟨v2, he2, h⟩ := obind h
  refine y_Vv (M := mX6_copy) (Y := mX10_copy) (d2 := d - 1) (As := [.ref (x1 + 131)]) (st := []) dX6_copy_101 mlRX6_73 cv_X10_copy (zko_5_9 hq0) (ct_To_copy (dle (Nat.le_of_ble_eq_true rfl) hd0) (zko_5_9 hq0) (zko_5_9 hq1) he2) (dps (Nat.le_of_ble_eq_true rfl) hd0) rfl rfl (Nat.le_of_ble_eq_true rfl) ?_
  refine z_aload_n dX6_copy_104 0 rfl ?_
  refine y_getR (M := mX6_copy) (r := (x0 + 133)) dX6_copy_105 hq0 flRX6_51 fr_5_10.1 (fr_5_10.2 _) ?_
  refine z_aload_n dX6_copy_108 1 rfl ?_
  refine y_getR (M := mX6_copy) (r := (x1 + 133)) dX6_copy_109 hq1 flRX6_51 fr_5_10.1 (fr_5_10.2 _) ?_
  obtain ⟨v3, he3, h⟩ := obind h
  refine y_Vv (M := mX6_copy) (Y := mX10_copy) (d2 := d - 1) (As := [.ref (x1 + 133)]) (st := []) dX6_copy_112 mlRX6_73 cv_X10_copy (zko_5_10 hq0) (ct_To_copy (dle (Nat.le_of_ble_eq_true rfl) hd0) (zko_5_10 hq0) (zko_5_10 hq1) he3) (dps (Nat.le_of_ble_eq_true rfl) hd0) rfl rfl (Nat.le_of_ble_eq_true rfl) ?_
  cases h
  exact z_vret dX6_copy_115 rfl
def So_copy (x0 : Nat) (x1 : Nat) (ν : Nm) : Option Nm :=
  (Pt_copy (x0 + 1) (x1 + 1) ν).bind fun v1 =>
  (St_copy (x0 + 5) (x1 + 5) v1).bind fun v2 =>
  So_copy_66 x0 x1 (si (si (scp (scp v2 (x1 + 127) 0 (x0 + 127) 0 4) (x1 + 128) 0 (x0 + 128) 0 4) x0 4 (gi (scp (scp v2 (x1 + 127) 0 (x0 + 127) 0 4) (x1 + 128) 0 (x0 + 128) 0 4) x1 4)) x0 5 (gi (si (scp (scp v2 (x1 + 127) 0 (x0 + 127) 0 4) (x1 + 128) 0 (x0 + 128) 0 4) x0 4 (gi (scp (scp v2 (x1 + 127) 0 (x0 + 127) 0 4) (x1 + 128) 0 (x0 + 128) 0 4) x1 4)) x1 5))
set_option maxRecDepth 100000 in
set_option maxHeartbeats 4000000 in
theorem t_So_copy {g : GG} {d : Nat} (hd0 : 3 ≤ d) : ∀ (x0 : Nat) (x1 : Nat) (ν : Nm) (r : Nm), zk 333 x0 (5, 0) → zk 333 x1 (5, 0) → So_copy x0 x1 ν = some r → Z g d (0, 0) mX6_copy 333 0 0 0 [(0, .ref x0), (1, .ref x1)] [] (zem ν) (zF g (none, zem r)) := by
  intro x0 x1 ν r hq0 hq1 h
  unfold So_copy at h
  refine z_aload_n dX6_copy_0 0 rfl ?_
  refine y_getR (M := mX6_copy) (r := (x0 + 1)) dX6_copy_1 hq0 flRX6_12 fr_5_0.1 (fr_5_0.2 _) ?_
  refine z_aload_n dX6_copy_4 1 rfl ?_
  refine y_getR (M := mX6_copy) (r := (x1 + 1)) dX6_copy_5 hq1 flRX6_12 fr_5_0.1 (fr_5_0.2 _) ?_
  obtain ⟨v1, he1, h⟩ := obind h
  refine y_Vv (M := mX6_copy) (Y := mX2_copy) (d2 := d - 1) (As := [.ref (x1 + 1)]) (st := []) dX6_copy_8 mlRX6_54 cv_X2_copy (zko_5_0 hq0) (ct_Pt_copy (dle (Nat.le_of_ble_eq_true rfl) hd0) (zko_5_0 hq0) (zko_5_0 hq1) he1) (dps (Nat.le_of_ble_eq_true rfl) hd0) rfl rfl (Nat.le_of_ble_eq_true rfl) ?_
  refine z_aload_n dX6_copy_11 0 rfl ?_
  refine y_getR (M := mX6_copy) (r := (x0 + 5)) dX6_copy_12 hq0 flRX6_21 fr_5_1.1 (fr_5_1.2 _) ?_
  refine z_aload_n dX6_copy_15 1 rfl ?_
  refine y_getR (M := mX6_copy) (r := (x1 + 5)) dX6_copy_16 hq1 flRX6_21 fr_5_1.1 (fr_5_1.2 _) ?_
  obtain ⟨v2, he2, h⟩ := obind h
  refine y_Vv (M := mX6_copy) (Y := mX5_copy) (d2 := d - 1) (As := [.ref (x1 + 5)]) (st := []) dX6_copy_19 mlRX6_58 cv_X5_copy (zko_5_1 hq0) (ct_St_copy (dle (Nat.le_of_ble_eq_true rfl) hd0) (zko_5_1 hq0) (zko_5_1 hq1) he2) (dps (Nat.le_of_ble_eq_true rfl) hd0) rfl rfl (Nat.le_of_ble_eq_true rfl) ?_
  refine z_aload_n dX6_copy_22 1 rfl ?_
  refine y_getR (M := mX6_copy) (r := (x1 + 127)) dX6_copy_23 hq1 flRX6_25 fr_5_2.1 (fr_5_2.2 _) ?_
  refine z_iconst (M := mX6_copy) (v := 0) dX6_copy_26 rfl ?_
  refine z_aload_n dX6_copy_27 0 rfl ?_
  refine y_getR (M := mX6_copy) (r := (x0 + 127)) dX6_copy_28 hq0 flRX6_25 fr_5_2.1 (fr_5_2.2 _) ?_
  refine z_iconst (M := mX6_copy) (v := 0) dX6_copy_31 rfl ?_
  refine z_iconst (M := mX6_copy) (v := 4) dX6_copy_32 rfl ?_
  refine y_copy dX6_copy_33 (cpw mlRX6_61) (zko_5_2 hq1) (zko_5_2 hq0) (by decide) (Nat.le_trans (Nat.le_of_ble_eq_true rfl) hd0) (Nat.le_of_ble_eq_true rfl) rfl rfl rfl ?_
  refine z_aload_n dX6_copy_36 1 rfl ?_
  refine y_getR (M := mX6_copy) (r := (x1 + 128)) dX6_copy_37 hq1 flRX6_29 fr_5_3.1 (fr_5_3.2 _) ?_
  refine z_iconst (M := mX6_copy) (v := 0) dX6_copy_40 rfl ?_
  refine z_aload_n dX6_copy_41 0 rfl ?_
  refine y_getR (M := mX6_copy) (r := (x0 + 128)) dX6_copy_42 hq0 flRX6_29 fr_5_3.1 (fr_5_3.2 _) ?_
  refine z_iconst (M := mX6_copy) (v := 0) dX6_copy_45 rfl ?_
  refine z_iconst (M := mX6_copy) (v := 4) dX6_copy_46 rfl ?_
  refine y_copy dX6_copy_47 (cpw mlRX6_61) (zko_5_3 hq1) (zko_5_3 hq0) (by decide) (Nat.le_trans (Nat.le_of_ble_eq_true rfl) hd0) (Nat.le_of_ble_eq_true rfl) rfl rfl rfl ?_
  refine z_aload_n dX6_copy_50 0 rfl ?_
  refine z_aload_n dX6_copy_51 1 rfl ?_
  refine y_getI dX6_copy_52 hq1 flRX6_67 ?_
  refine y_putI dX6_copy_55 hq0 flRX6_67 ⟨rfl, rfl⟩ ?_
  refine z_aload_n dX6_copy_58 0 rfl ?_
  refine z_aload_n dX6_copy_59 1 rfl ?_
  refine y_getI dX6_copy_60 hq1 flRX6_32 ?_
  refine y_putI dX6_copy_63 hq0 flRX6_32 ⟨rfl, rfl⟩ ?_
  exact t_So_copy_66 hd0  x0 x1 (si (si (scp (scp v2 (x1 + 127) 0 (x0 + 127) 0 4) (x1 + 128) 0 (x0 + 128) 0 4) x0 4 (gi (scp (scp v2 (x1 + 127) 0 (x0 + 127) 0 4) (x1 + 128) 0 (x0 + 128) 0 4) x1 4)) x0 5 (gi (si (scp (scp v2 (x1 + 127) 0 (x0 + 127) 0 4) (x1 + 128) 0 (x0 + 128) 0 4) x0 4 (gi (scp (scp v2 (x1 + 127) 0 (x0 + 127) 0 4) (x1 + 128) 0 (x0 + 128) 0 4) x1 4)) x1 5)) _ hq0 hq1 h
theorem ct_So_copy {g : GG} {d : Nat} {x0 : Nat} {x1 : Nat} {ν : Nm} {r : Nm} (hd0 : 3 ≤ d) (hq0 : zk 333 x0 (5, 0)) (hq1 : zk 333 x1 (5, 0)) (h : So_copy x0 x1 ν = some r) : Ct g d mX6_copy [.ref x0, .ref x1] (zem ν) (none, zem r) := y_entry in_X6_copy (Nat.le_of_ble_eq_true rfl) rfl (t_So_copy hd0 x0 x1 ν r hq0 hq1 h)
-- FuseMinutes$Store.priceOf(I)I
theorem dX6_priceOf_0 : decode cX6_priceOf 0 = .ok (.iconst 0, 1) := by decide +kernel
theorem dX6_priceOf_1 : decode cX6_priceOf 1 = .ok (.istore_n 2, 1) := by decide +kernel
theorem dX6_priceOf_2 : decode cX6_priceOf 2 = .ok (.iconst 0, 1) := by decide +kernel
theorem dX6_priceOf_3 : decode cX6_priceOf 3 = .ok (.istore_n 3, 1) := by decide +kernel
theorem dX6_priceOf_4 : decode cX6_priceOf 4 = .ok (.iload_n 3, 1) := by decide +kernel
theorem dX6_priceOf_5 : decode cX6_priceOf 5 = .ok (.iconst 4, 1) := by decide +kernel
theorem dX6_priceOf_6 : decode cX6_priceOf 6 = .ok (.if_icmp .ge 26, 3) := by decide +kernel
theorem dX6_priceOf_9 : decode cX6_priceOf 9 = .ok (.iload_n 1, 1) := by decide +kernel
theorem dX6_priceOf_10 : decode cX6_priceOf 10 = .ok (.iload_n 3, 1) := by decide +kernel
theorem dX6_priceOf_11 : decode cX6_priceOf 11 = .ok (.ishr, 1) := by decide +kernel
theorem dX6_priceOf_12 : decode cX6_priceOf 12 = .ok (.iconst 1, 1) := by decide +kernel
theorem dX6_priceOf_13 : decode cX6_priceOf 13 = .ok (.iand, 1) := by decide +kernel
theorem dX6_priceOf_14 : decode cX6_priceOf 14 = .ok (.ifCond .eq 12, 3) := by decide +kernel
theorem dX6_priceOf_17 : decode cX6_priceOf 17 = .ok (.iload_n 2, 1) := by decide +kernel
theorem dX6_priceOf_18 : decode cX6_priceOf 18 = .ok (.aload_n 0, 1) := by decide +kernel
theorem dX6_priceOf_19 : decode cX6_priceOf 19 = .ok (.getfield 29, 3) := by decide +kernel
theorem dX6_priceOf_22 : decode cX6_priceOf 22 = .ok (.iload_n 3, 1) := by decide +kernel
theorem dX6_priceOf_23 : decode cX6_priceOf 23 = .ok (.iaload, 1) := by decide +kernel
theorem dX6_priceOf_24 : decode cX6_priceOf 24 = .ok (.iadd, 1) := by decide +kernel
theorem dX6_priceOf_25 : decode cX6_priceOf 25 = .ok (.istore_n 2, 1) := by decide +kernel
theorem dX6_priceOf_26 : decode cX6_priceOf 26 = .ok (.iinc 3 1, 3) := by decide +kernel
theorem dX6_priceOf_29 : decode cX6_priceOf 29 = .ok (.goto (-25), 3) := by decide +kernel
theorem dX6_priceOf_32 : decode cX6_priceOf 32 = .ok (.iload_n 2, 1) := by decide +kernel
theorem dX6_priceOf_33 : decode cX6_priceOf 33 = .ok (.ireturn, 1) := by decide +kernel
def So_priceOf_26 (ν : Nm) (k4 : Nat → Int32 → Int32 → Int32 → Option Int32) (x0 : Nat) (x1 : Int32) (x2 : Int32) (x3 : Int32) : Option Int32 :=
  k4 x0 x1 x2 (x3 + (1 : Int32))
set_option maxRecDepth 100000 in
set_option maxHeartbeats 4000000 in
theorem t_So_priceOf_26 {g : GG} {d : Nat} {ν : Nm} (hd0 : 1 ≤ d) {k4 : Nat → Int32 → Int32 → Int32 → Option Int32} (hk4 : ∀ (x0 : Nat) (x1 : Int32) (x2 : Int32) (x3 : Int32) (r : Int32), zk 333 x0 (5, 0) → k4 x0 x1 x2 x3 = some r → Z g d (0, 0) mX6_priceOf 333 0 0 4 [(0, .ref x0), (1, .int x1), (2, .int x2), (3, .int x3)] [] (zem ν) (zF g (some (.int r), zem ν))) : ∀ (x0 : Nat) (x1 : Int32) (x2 : Int32) (x3 : Int32) (r : Int32), zk 333 x0 (5, 0) → So_priceOf_26 ν k4 x0 x1 x2 x3 = some r → Z g d (0, 0) mX6_priceOf 333 0 0 26 [(0, .ref x0), (1, .int x1), (2, .int x2), (3, .int x3)] [] (zem ν) (zF g (some (.int r), zem ν)) := by
  intro x0 x1 x2 x3 r hq0 h
  unfold So_priceOf_26 at h
  refine z_iinc (M := mX6_priceOf) (v := (x3 + (1 : Int32))) (lv2 := [(3, .int (x3 + (1 : Int32))), (0, .ref x0), (1, .int x1), (2, .int x2)]) dX6_priceOf_26 3 rfl rfl (Nat.le_of_ble_eq_true rfl) rfl ?_
  refine z_goto 4 dX6_priceOf_29 rfl ?_
  refine z_lv (lv2 := [(0, .ref x0), (1, .int x1), (2, .int x2), (3, .int (x3 + (1 : Int32)))]) [1, 2, 3, 0] rfl ?_
  exact hk4 x0 x1 x2 (x3 + (1 : Int32)) _ hq0 h
def So_priceOf_4 (ν : Nm) : Nat → Nat → Int32 → Int32 → Int32 → Option Int32
  | 0, _, _, _, _ => none
  | f + 1, x0, x1, x2, x3 =>
    (if (4 : Int32) ≤ x3 then
      some x2
    else
      (if ((x1 >>> (x3 &&& 31)) &&& (1 : Int32)) = 0 then
        So_priceOf_26 ν (So_priceOf_4 ν f) x0 x1 x2 x3
      else
        if inb x3 4 then
        So_priceOf_26 ν (So_priceOf_4 ν f) x0 x1 (x2 + (gi ν (x0 + 128) x3.toNatClampNeg)) x3
        else none))
set_option maxRecDepth 100000 in
set_option maxHeartbeats 4000000 in
theorem t_So_priceOf_4 {g : GG} {d : Nat} {ν : Nm} (hd0 : 1 ≤ d) : ∀ (f : Nat), ∀ (x0 : Nat) (x1 : Int32) (x2 : Int32) (x3 : Int32) (r : Int32), zk 333 x0 (5, 0) → So_priceOf_4 ν f x0 x1 x2 x3 = some r → Z g d (0, 0) mX6_priceOf 333 0 0 4 [(0, .ref x0), (1, .int x1), (2, .int x2), (3, .int x3)] [] (zem ν) (zF g (some (.int r), zem ν)) := by
  intro f
  induction f with
  | zero =>
    intro x0 x1 x2 x3 r hq0 h
    cases h
  | succ f ih =>
    intro x0 x1 x2 x3 r hq0 h
    rw [So_priceOf_4] at h
    refine z_iload_n dX6_priceOf_4 3 rfl ?_
    refine z_iconst (M := mX6_priceOf) (v := 4) dX6_priceOf_5 rfl ?_
    refine z_icmp_ge 32 dX6_priceOf_6 rfl (fun hc1 => ?_) (fun hc1 => ?_)
    · replace h := oT hc1 h
      refine z_iload_n dX6_priceOf_32 2 rfl ?_
      cases h
      exact z_iret dX6_priceOf_33 rfl
    · replace h := oF hc1 h
      refine z_iload_n dX6_priceOf_9 1 rfl ?_
      refine z_iload_n dX6_priceOf_10 3 rfl ?_
      refine z_ishr dX6_priceOf_11 ?_
      refine z_iconst (M := mX6_priceOf) (v := 1) dX6_priceOf_12 rfl ?_
      refine z_iand dX6_priceOf_13 ?_
      refine z_if_eq 26 dX6_priceOf_14 rfl (fun hc2 => ?_) (fun hc2 => ?_)
      · replace h := oT hc2 h
        exact t_So_priceOf_26 hd0 ih x0 x1 x2 x3 _ hq0 h
      · replace h := oF hc2 h
        refine z_iload_n dX6_priceOf_17 2 rfl ?_
        refine z_aload_n dX6_priceOf_18 0 rfl ?_
        refine y_getR (M := mX6_priceOf) (r := (x0 + 128)) dX6_priceOf_19 hq0 flRX6_29 fr_5_3.1 (fr_5_3.2 _) ?_
        refine z_iload_n dX6_priceOf_22 3 rfl ?_
        obtain ⟨hi3, h⟩ := oif h
        refine y_iald (M := mX6_priceOf) (jj := x3.toNatClampNeg) dX6_priceOf_23 (zko_5_3 hq0) hi3 rfl ?_
        refine z_iadd dX6_priceOf_24 ?_
        refine z_istore_n (M := mX6_priceOf) (lv2 := [(2, .int (x2 + (gi ν (x0 + 128) x3.toNatClampNeg))), (0, .ref x0), (1, .int x1), (3, .int x3)]) dX6_priceOf_25 (Nat.le_of_ble_eq_true rfl) rfl ?_
        refine z_lv (lv2 := [(0, .ref x0), (1, .int x1), (2, .int (x2 + (gi ν (x0 + 128) x3.toNatClampNeg))), (3, .int x3)]) [1, 2, 0, 3] rfl ?_
        exact t_So_priceOf_26 hd0 ih x0 x1 (x2 + (gi ν (x0 + 128) x3.toNatClampNeg)) x3 _ hq0 h
def So_priceOf (ν : Nm) (x0 : Nat) (x1 : Int32) : Option Int32 :=
  So_priceOf_4 ν FU x0 x1 (0 : Int32) (0 : Int32)
set_option maxRecDepth 100000 in
set_option maxHeartbeats 4000000 in
theorem t_So_priceOf {g : GG} {d : Nat} {ν : Nm} (hd0 : 1 ≤ d) : ∀ (x0 : Nat) (x1 : Int32) (r : Int32), zk 333 x0 (5, 0) → So_priceOf ν x0 x1 = some r → Z g d (0, 0) mX6_priceOf 333 0 0 0 [(0, .ref x0), (1, .int x1)] [] (zem ν) (zF g (some (.int r), zem ν)) := by
  intro x0 x1 r hq0 h
  unfold So_priceOf at h
  refine z_iconst (M := mX6_priceOf) (v := 0) dX6_priceOf_0 rfl ?_
  refine z_istore_n (M := mX6_priceOf) (lv2 := [(2, .int (0 : Int32)), (0, .ref x0), (1, .int x1)]) dX6_priceOf_1 (Nat.le_of_ble_eq_true rfl) rfl ?_
  refine z_iconst (M := mX6_priceOf) (v := 0) dX6_priceOf_2 rfl ?_
  refine z_istore_n (M := mX6_priceOf) (lv2 := [(3, .int (0 : Int32)), (2, .int (0 : Int32)), (0, .ref x0), (1, .int x1)]) dX6_priceOf_3 (Nat.le_of_ble_eq_true rfl) rfl ?_
  refine z_lv (lv2 := [(0, .ref x0), (1, .int x1), (2, .int (0 : Int32)), (3, .int (0 : Int32))]) [2, 3, 1, 0] rfl ?_
  exact t_So_priceOf_4 hd0 FU x0 x1 (0 : Int32) (0 : Int32) _ hq0 h
theorem ct_So_priceOf {g : GG} {d : Nat} {x0 : Nat} {x1 : Int32} {ν : Nm} {r : Int32} (hd0 : 1 ≤ d) (hq0 : zk 333 x0 (5, 0)) (h : So_priceOf ν x0 x1 = some r) : Ct g d mX6_priceOf [.ref x0, .int x1] (zem ν) (some (.int r), zem ν) := y_entry in_X6_priceOf (Nat.le_of_ble_eq_true rfl) rfl (t_So_priceOf hd0 x0 x1 r hq0 h)
-- FuseMinutes$Suspects.fits(ILFuseMinutes$Told;)Z
theorem dX8_fits_0 : decode cX8_fits 0 = .ok (.iconst 0, 1) := by decide +kernel
theorem dX8_fits_1 : decode cX8_fits 1 = .ok (.istore_n 2, 1) := by decide +kernel
theorem dX8_fits_2 : decode cX8_fits 2 = .ok (.iload_n 2, 1) := by decide +kernel
theorem dX8_fits_3 : decode cX8_fits 3 = .ok (.aload_n 1, 1) := by decide +kernel
theorem dX8_fits_4 : decode cX8_fits 4 = .ok (.getfield 9, 3) := by decide +kernel
theorem dX8_fits_7 : decode cX8_fits 7 = .ok (.if_icmp .ge 63, 3) := by decide +kernel
theorem dX8_fits_10 : decode cX8_fits 10 = .ok (.iload_n 2, 1) := by decide +kernel
theorem dX8_fits_11 : decode cX8_fits 11 = .ok (.aload_n 1, 1) := by decide +kernel
theorem dX8_fits_12 : decode cX8_fits 12 = .ok (.getfield 15, 3) := by decide +kernel
theorem dX8_fits_15 : decode cX8_fits 15 = .ok (.arraylength, 1) := by decide +kernel
theorem dX8_fits_16 : decode cX8_fits 16 = .ok (.if_icmp .ge 54, 3) := by decide +kernel
theorem dX8_fits_19 : decode cX8_fits 19 = .ok (.aload_n 1, 1) := by decide +kernel
theorem dX8_fits_20 : decode cX8_fits 20 = .ok (.getfield 15, 3) := by decide +kernel
theorem dX8_fits_23 : decode cX8_fits 23 = .ok (.iload_n 2, 1) := by decide +kernel
theorem dX8_fits_24 : decode cX8_fits 24 = .ok (.iaload, 1) := by decide +kernel
theorem dX8_fits_25 : decode cX8_fits 25 = .ok (.iconst 1, 1) := by decide +kernel
theorem dX8_fits_26 : decode cX8_fits 26 = .ok (.iand, 1) := by decide +kernel
theorem dX8_fits_27 : decode cX8_fits 27 = .ok (.ifCond .eq 7, 3) := by decide +kernel
theorem dX8_fits_30 : decode cX8_fits 30 = .ok (.iconst 1, 1) := by decide +kernel
theorem dX8_fits_31 : decode cX8_fits 31 = .ok (.goto 4, 3) := by decide +kernel
theorem dX8_fits_34 : decode cX8_fits 34 = .ok (.iconst 0, 1) := by decide +kernel
theorem dX8_fits_35 : decode cX8_fits 35 = .ok (.istore_n 3, 1) := by decide +kernel
theorem dX8_fits_36 : decode cX8_fits 36 = .ok (.iload_n 0, 1) := by decide +kernel
theorem dX8_fits_37 : decode cX8_fits 37 = .ok (.aload_n 1, 1) := by decide +kernel
theorem dX8_fits_38 : decode cX8_fits 38 = .ok (.getfield 15, 3) := by decide +kernel
theorem dX8_fits_41 : decode cX8_fits 41 = .ok (.iload_n 2, 1) := by decide +kernel
theorem dX8_fits_42 : decode cX8_fits 42 = .ok (.iaload, 1) := by decide +kernel
theorem dX8_fits_43 : decode cX8_fits 43 = .ok (.iconst 1, 1) := by decide +kernel
theorem dX8_fits_44 : decode cX8_fits 44 = .ok (.ishr, 1) := by decide +kernel
theorem dX8_fits_45 : decode cX8_fits 45 = .ok (.iand, 1) := by decide +kernel
theorem dX8_fits_46 : decode cX8_fits 46 = .ok (.ifCond .eq 7, 3) := by decide +kernel
theorem dX8_fits_49 : decode cX8_fits 49 = .ok (.iconst 1, 1) := by decide +kernel
theorem dX8_fits_50 : decode cX8_fits 50 = .ok (.goto 4, 3) := by decide +kernel
theorem dX8_fits_53 : decode cX8_fits 53 = .ok (.iconst 0, 1) := by decide +kernel
theorem dX8_fits_54 : decode cX8_fits 54 = .ok (.istore 4, 2) := by decide +kernel
theorem dX8_fits_56 : decode cX8_fits 56 = .ok (.iload_n 3, 1) := by decide +kernel
theorem dX8_fits_57 : decode cX8_fits 57 = .ok (.iload 4, 2) := by decide +kernel
theorem dX8_fits_59 : decode cX8_fits 59 = .ok (.if_icmp .eq 5, 3) := by decide +kernel
theorem dX8_fits_62 : decode cX8_fits 62 = .ok (.iconst 0, 1) := by decide +kernel
theorem dX8_fits_63 : decode cX8_fits 63 = .ok (.ireturn, 1) := by decide +kernel
theorem dX8_fits_64 : decode cX8_fits 64 = .ok (.iinc 2 1, 3) := by decide +kernel
theorem dX8_fits_67 : decode cX8_fits 67 = .ok (.goto (-65), 3) := by decide +kernel
theorem dX8_fits_70 : decode cX8_fits 70 = .ok (.iconst 1, 1) := by decide +kernel
theorem dX8_fits_71 : decode cX8_fits 71 = .ok (.ireturn, 1) := by decide +kernel
def Sp_fits_54 (ν : Nm) (k2 : Int32 → Nat → Int32 → Option Bool) (x0 : Int32) (x1 : Nat) (x2 : Int32) (x3 : Int32) (s0 : Int32) : Option Bool :=
  (if x3 = s0 then
    k2 x0 x1 (x2 + (1 : Int32))
  else
    some false)
set_option maxRecDepth 100000 in
set_option maxHeartbeats 4000000 in
theorem t_Sp_fits_54 {g : GG} {d : Nat} {ν : Nm} (hd0 : 1 ≤ d) {k2 : Int32 → Nat → Int32 → Option Bool} (hk2 : ∀ (x0 : Int32) (x1 : Nat) (x2 : Int32) (r : Bool), zk 333 x1 (8, 0) → k2 x0 x1 x2 = some r → Z g d (0, 0) mX8_fits 333 0 0 2 [(0, .int x0), (1, .ref x1), (2, .int x2)] [] (zem ν) (zF g (some (.int (b2i r)), zem ν))) : ∀ (x0 : Int32) (x1 : Nat) (x2 : Int32) (x3 : Int32) (s0 : Int32) (r : Bool), zk 333 x1 (8, 0) → Sp_fits_54 ν k2 x0 x1 x2 x3 s0 = some r → Z g d (0, 0) mX8_fits 333 0 0 54 [(0, .int x0), (1, .ref x1), (2, .int x2), (3, .int x3)] [.int s0] (zem ν) (zF g (some (.int (b2i r)), zem ν)) := by
  intro x0 x1 x2 x3 s0 r hq1 h
  unfold Sp_fits_54 at h
  refine z_istore (M := mX8_fits) (lv2 := [(4, .int s0), (0, .int x0), (1, .ref x1), (2, .int x2), (3, .int x3)]) dX8_fits_54 (Nat.le_of_ble_eq_true rfl) rfl ?_
  refine z_iload_n dX8_fits_56 4 rfl ?_
  refine z_iload dX8_fits_57 0 rfl ?_
  refine z_icmp_eq 64 dX8_fits_59 rfl (fun hc1 => ?_) (fun hc1 => ?_)
  · replace h := oT hc1 h
    refine z_iinc (M := mX8_fits) (v := (x2 + (1 : Int32))) (lv2 := [(2, .int (x2 + (1 : Int32))), (4, .int s0), (0, .int x0), (1, .ref x1), (3, .int x3)]) dX8_fits_64 3 rfl rfl (Nat.le_of_ble_eq_true rfl) rfl ?_
    refine z_goto 2 dX8_fits_67 rfl ?_
    refine z_lv (lv2 := [(0, .int x0), (1, .ref x1), (2, .int (x2 + (1 : Int32)))]) [2, 3, 0] rfl ?_
    exact hk2 x0 x1 (x2 + (1 : Int32)) _ hq1 h
  · replace h := oF hc1 h
    refine z_iconst (M := mX8_fits) (v := 0) dX8_fits_62 rfl ?_
    cases h
    exact z_zret dX8_fits_63 rfl rfl
def Sp_fits_35 (ν : Nm) (k2 : Int32 → Nat → Int32 → Option Bool) (x0 : Int32) (x1 : Nat) (x2 : Int32) (s0 : Int32) : Option Bool :=
  if inb x2 (tl x1) then
  (if (x0 &&& ((gi ν (x1 + 1) x2.toNatClampNeg) >>> ((1 : Int32) &&& 31))) = 0 then
    Sp_fits_54 ν k2 x0 x1 x2 s0 (0 : Int32)
  else
    Sp_fits_54 ν k2 x0 x1 x2 s0 (1 : Int32))
  else none
set_option maxRecDepth 100000 in
set_option maxHeartbeats 4000000 in
theorem t_Sp_fits_35 {g : GG} {d : Nat} {ν : Nm} (hd0 : 1 ≤ d) {k2 : Int32 → Nat → Int32 → Option Bool} (hk2 : ∀ (x0 : Int32) (x1 : Nat) (x2 : Int32) (r : Bool), zk 333 x1 (8, 0) → k2 x0 x1 x2 = some r → Z g d (0, 0) mX8_fits 333 0 0 2 [(0, .int x0), (1, .ref x1), (2, .int x2)] [] (zem ν) (zF g (some (.int (b2i r)), zem ν))) : ∀ (x0 : Int32) (x1 : Nat) (x2 : Int32) (s0 : Int32) (r : Bool), zk 333 x1 (8, 0) → Sp_fits_35 ν k2 x0 x1 x2 s0 = some r → Z g d (0, 0) mX8_fits 333 0 0 35 [(0, .int x0), (1, .ref x1), (2, .int x2)] [.int s0] (zem ν) (zF g (some (.int (b2i r)), zem ν)) := by
  intro x0 x1 x2 s0 r hq1 h
  unfold Sp_fits_35 at h
  refine z_istore_n (M := mX8_fits) (lv2 := [(3, .int s0), (0, .int x0), (1, .ref x1), (2, .int x2)]) dX8_fits_35 (Nat.le_of_ble_eq_true rfl) rfl ?_
  refine z_iload_n dX8_fits_36 1 rfl ?_
  refine z_aload_n dX8_fits_37 2 rfl ?_
  refine y_getR (M := mX8_fits) (r := (x1 + 1)) dX8_fits_38 hq1 flRX8_15 fr_8_0.1 (fr_8_0.2 _) ?_
  refine z_iload_n dX8_fits_41 3 rfl ?_
  obtain ⟨hi1, h⟩ := oif h
  refine y_iald (M := mX8_fits) (jj := x2.toNatClampNeg) dX8_fits_42 (zko_8_0 hq1) hi1 rfl ?_
  refine z_iconst (M := mX8_fits) (v := 1) dX8_fits_43 rfl ?_
  refine z_ishr dX8_fits_44 ?_
  refine z_iand dX8_fits_45 ?_
  refine z_if_eq 53 dX8_fits_46 rfl (fun hc2 => ?_) (fun hc2 => ?_)
  · replace h := oT hc2 h
    refine z_iconst (M := mX8_fits) (v := 0) dX8_fits_53 rfl ?_
    refine z_lv (lv2 := [(0, .int x0), (1, .ref x1), (2, .int x2), (3, .int s0)]) [1, 2, 3, 0] rfl ?_
    exact t_Sp_fits_54 hd0 hk2 x0 x1 x2 s0 (0 : Int32) _ hq1 h
  · replace h := oF hc2 h
    refine z_iconst (M := mX8_fits) (v := 1) dX8_fits_49 rfl ?_
    refine z_goto 54 dX8_fits_50 rfl ?_
    refine z_lv (lv2 := [(0, .int x0), (1, .ref x1), (2, .int x2), (3, .int s0)]) [1, 2, 3, 0] rfl ?_
    exact t_Sp_fits_54 hd0 hk2 x0 x1 x2 s0 (1 : Int32) _ hq1 h
def Sp_fits_2 (ν : Nm) : Nat → Int32 → Nat → Int32 → Option Bool
  | 0, _, _, _ => none
  | f + 1, x0, x1, x2 =>
    (if (gi ν x1 1) ≤ x2 then
      some true
    else
      (if (Int32.ofNat (tl x1)) ≤ x2 then
        some true
      else
        if inb x2 (tl x1) then
        (if ((gi ν (x1 + 1) x2.toNatClampNeg) &&& (1 : Int32)) = 0 then
          Sp_fits_35 ν (Sp_fits_2 ν f) x0 x1 x2 (0 : Int32)
        else
          Sp_fits_35 ν (Sp_fits_2 ν f) x0 x1 x2 (1 : Int32))
        else none))
set_option maxRecDepth 100000 in
set_option maxHeartbeats 4000000 in
theorem t_Sp_fits_2 {g : GG} {d : Nat} {ν : Nm} (hd0 : 1 ≤ d) : ∀ (f : Nat), ∀ (x0 : Int32) (x1 : Nat) (x2 : Int32) (r : Bool), zk 333 x1 (8, 0) → Sp_fits_2 ν f x0 x1 x2 = some r → Z g d (0, 0) mX8_fits 333 0 0 2 [(0, .int x0), (1, .ref x1), (2, .int x2)] [] (zem ν) (zF g (some (.int (b2i r)), zem ν)) := by
  intro f
  induction f with
  | zero =>
    intro x0 x1 x2 r hq1 h
    cases h
  | succ f ih =>
    intro x0 x1 x2 r hq1 h
    rw [Sp_fits_2] at h
    refine z_iload_n dX8_fits_2 2 rfl ?_
    refine z_aload_n dX8_fits_3 1 rfl ?_
    refine y_getI dX8_fits_4 hq1 flRX8_9 ?_
    refine z_icmp_ge 70 dX8_fits_7 rfl (fun hc1 => ?_) (fun hc1 => ?_)
    · replace h := oT hc1 h
      refine z_iconst (M := mX8_fits) (v := 1) dX8_fits_70 rfl ?_
      cases h
      exact z_zret dX8_fits_71 rfl rfl
    · replace h := oF hc1 h
      refine z_iload_n dX8_fits_10 2 rfl ?_
      refine z_aload_n dX8_fits_11 1 rfl ?_
      refine y_getR (M := mX8_fits) (r := (x1 + 1)) dX8_fits_12 hq1 flRX8_15 fr_8_0.1 (fr_8_0.2 _) ?_
      refine z_alen (M := mX8_fits) (v := (Int32.ofNat (tl x1))) dX8_fits_15 (zko_8_0 hq1) rfl ?_
      refine z_icmp_ge 70 dX8_fits_16 rfl (fun hc2 => ?_) (fun hc2 => ?_)
      · replace h := oT hc2 h
        refine z_iconst (M := mX8_fits) (v := 1) dX8_fits_70 rfl ?_
        cases h
        exact z_zret dX8_fits_71 rfl rfl
      · replace h := oF hc2 h
        refine z_aload_n dX8_fits_19 1 rfl ?_
        refine y_getR (M := mX8_fits) (r := (x1 + 1)) dX8_fits_20 hq1 flRX8_15 fr_8_0.1 (fr_8_0.2 _) ?_
        refine z_iload_n dX8_fits_23 2 rfl ?_
        obtain ⟨hi3, h⟩ := oif h
        refine y_iald (M := mX8_fits) (jj := x2.toNatClampNeg) dX8_fits_24 (zko_8_0 hq1) hi3 rfl ?_
        refine z_iconst (M := mX8_fits) (v := 1) dX8_fits_25 rfl ?_
        refine z_iand dX8_fits_26 ?_
        refine z_if_eq 34 dX8_fits_27 rfl (fun hc4 => ?_) (fun hc4 => ?_)
        · replace h := oT hc4 h
          refine z_iconst (M := mX8_fits) (v := 0) dX8_fits_34 rfl ?_
          exact t_Sp_fits_35 hd0 ih x0 x1 x2 (0 : Int32) _ hq1 h
        · replace h := oF hc4 h
          refine z_iconst (M := mX8_fits) (v := 1) dX8_fits_30 rfl ?_
          refine z_goto 35 dX8_fits_31 rfl ?_
          exact t_Sp_fits_35 hd0 ih x0 x1 x2 (1 : Int32) _ hq1 h
def Sp_fits (ν : Nm) (x0 : Int32) (x1 : Nat) : Option Bool :=
  Sp_fits_2 ν FU x0 x1 (0 : Int32)
set_option maxRecDepth 100000 in
set_option maxHeartbeats 4000000 in
theorem t_Sp_fits {g : GG} {d : Nat} {ν : Nm} (hd0 : 1 ≤ d) : ∀ (x0 : Int32) (x1 : Nat) (r : Bool), zk 333 x1 (8, 0) → Sp_fits ν x0 x1 = some r → Z g d (0, 0) mX8_fits 333 0 0 0 [(0, .int x0), (1, .ref x1)] [] (zem ν) (zF g (some (.int (b2i r)), zem ν)) := by
  intro x0 x1 r hq1 h
  unfold Sp_fits at h
  refine z_iconst (M := mX8_fits) (v := 0) dX8_fits_0 rfl ?_
  refine z_istore_n (M := mX8_fits) (lv2 := [(2, .int (0 : Int32)), (0, .int x0), (1, .ref x1)]) dX8_fits_1 (Nat.le_of_ble_eq_true rfl) rfl ?_
  refine z_lv (lv2 := [(0, .int x0), (1, .ref x1), (2, .int (0 : Int32))]) [1, 2, 0] rfl ?_
  exact t_Sp_fits_2 hd0 FU x0 x1 (0 : Int32) _ hq1 h
theorem ct_Sp_fits {g : GG} {d : Nat} {x0 : Int32} {x1 : Nat} {ν : Nm} {r : Bool} (hd0 : 1 ≤ d) (hq1 : zk 333 x1 (8, 0)) (h : Sp_fits ν x0 x1 = some r) : Ct g d mX8_fits [.int x0, .ref x1] (zem ν) (some (.int (b2i r)), zem ν) := y_entry in_X8_fits (Nat.le_of_ble_eq_true rfl) rfl (t_Sp_fits hd0 x0 x1 r hq1 h)
-- FuseMinutes$Suspects.inAll(II)I
theorem dX8_inAll_0 : decode cX8_inAll 0 = .ok (.iload_n 1, 1) := by decide +kernel
theorem dX8_inAll_1 : decode cX8_inAll 1 = .ok (.istore_n 2, 1) := by decide +kernel
theorem dX8_inAll_2 : decode cX8_inAll 2 = .ok (.iconst 0, 1) := by decide +kernel
theorem dX8_inAll_3 : decode cX8_inAll 3 = .ok (.istore_n 3, 1) := by decide +kernel
theorem dX8_inAll_4 : decode cX8_inAll 4 = .ok (.iload_n 3, 1) := by decide +kernel
theorem dX8_inAll_5 : decode cX8_inAll 5 = .ok (.bipush 16, 2) := by decide +kernel
theorem dX8_inAll_7 : decode cX8_inAll 7 = .ok (.if_icmp .ge 21, 3) := by decide +kernel
theorem dX8_inAll_10 : decode cX8_inAll 10 = .ok (.iload_n 0, 1) := by decide +kernel
theorem dX8_inAll_11 : decode cX8_inAll 11 = .ok (.iload_n 3, 1) := by decide +kernel
theorem dX8_inAll_12 : decode cX8_inAll 12 = .ok (.ishr, 1) := by decide +kernel
theorem dX8_inAll_13 : decode cX8_inAll 13 = .ok (.iconst 1, 1) := by decide +kernel
theorem dX8_inAll_14 : decode cX8_inAll 14 = .ok (.iand, 1) := by decide +kernel
theorem dX8_inAll_15 : decode cX8_inAll 15 = .ok (.ifCond .eq 7, 3) := by decide +kernel
theorem dX8_inAll_18 : decode cX8_inAll 18 = .ok (.iload_n 2, 1) := by decide +kernel
theorem dX8_inAll_19 : decode cX8_inAll 19 = .ok (.iload_n 3, 1) := by decide +kernel
theorem dX8_inAll_20 : decode cX8_inAll 20 = .ok (.iand, 1) := by decide +kernel
theorem dX8_inAll_21 : decode cX8_inAll 21 = .ok (.istore_n 2, 1) := by decide +kernel
theorem dX8_inAll_22 : decode cX8_inAll 22 = .ok (.iinc 3 1, 3) := by decide +kernel
theorem dX8_inAll_25 : decode cX8_inAll 25 = .ok (.goto (-21), 3) := by decide +kernel
theorem dX8_inAll_28 : decode cX8_inAll 28 = .ok (.iload_n 2, 1) := by decide +kernel
theorem dX8_inAll_29 : decode cX8_inAll 29 = .ok (.ireturn, 1) := by decide +kernel
def Sp_inAll_22 (k4 : Int32 → Int32 → Int32 → Option Int32) (x0 : Int32) (x2 : Int32) (x3 : Int32) : Option Int32 :=
  k4 x0 x2 (x3 + (1 : Int32))
set_option maxRecDepth 100000 in
set_option maxHeartbeats 4000000 in
theorem t_Sp_inAll_22 {g : GG} {d : Nat} {μ : Mm} (hd0 : 1 ≤ d) {k4 : Int32 → Int32 → Int32 → Option Int32} (hk4 : ∀ (x0 : Int32) (x2 : Int32) (x3 : Int32) (r : Int32), k4 x0 x2 x3 = some r → Z g d (0, 0) mX8_inAll 333 0 0 4 [(0, .int x0), (2, .int x2), (3, .int x3)] [] μ (zF g (some (.int r), μ))) : ∀ (x0 : Int32) (x2 : Int32) (x3 : Int32) (r : Int32), Sp_inAll_22 k4 x0 x2 x3 = some r → Z g d (0, 0) mX8_inAll 333 0 0 22 [(0, .int x0), (2, .int x2), (3, .int x3)] [] μ (zF g (some (.int r), μ)) := by
  intro x0 x2 x3 r h
  unfold Sp_inAll_22 at h
  refine z_iinc (M := mX8_inAll) (v := (x3 + (1 : Int32))) (lv2 := [(3, .int (x3 + (1 : Int32))), (0, .int x0), (2, .int x2)]) dX8_inAll_22 2 rfl rfl (Nat.le_of_ble_eq_true rfl) rfl ?_
  refine z_goto 4 dX8_inAll_25 rfl ?_
  refine z_lv (lv2 := [(0, .int x0), (2, .int x2), (3, .int (x3 + (1 : Int32)))]) [1, 2, 0] rfl ?_
  exact hk4 x0 x2 (x3 + (1 : Int32)) _ h
def Sp_inAll_4 : Nat → Int32 → Int32 → Int32 → Option Int32
  | 0, _, _, _ => none
  | f + 1, x0, x2, x3 =>
    (if (16 : Int32) ≤ x3 then
      some x2
    else
      (if ((x0 >>> (x3 &&& 31)) &&& (1 : Int32)) = 0 then
        Sp_inAll_22 (Sp_inAll_4 f) x0 x2 x3
      else
        Sp_inAll_22 (Sp_inAll_4 f) x0 (x2 &&& x3) x3))
set_option maxRecDepth 100000 in
set_option maxHeartbeats 4000000 in
theorem t_Sp_inAll_4 {g : GG} {d : Nat} {μ : Mm} (hd0 : 1 ≤ d) : ∀ (f : Nat), ∀ (x0 : Int32) (x2 : Int32) (x3 : Int32) (r : Int32), Sp_inAll_4 f x0 x2 x3 = some r → Z g d (0, 0) mX8_inAll 333 0 0 4 [(0, .int x0), (2, .int x2), (3, .int x3)] [] μ (zF g (some (.int r), μ)) := by
  intro f
  induction f with
  | zero =>
    intro x0 x2 x3 r h
    cases h
  | succ f ih =>
    intro x0 x2 x3 r h
    rw [Sp_inAll_4] at h
    refine z_iload_n dX8_inAll_4 2 rfl ?_
    refine z_bipush (M := mX8_inAll) (v := 16) dX8_inAll_5 rfl ?_
    refine z_icmp_ge 28 dX8_inAll_7 rfl (fun hc1 => ?_) (fun hc1 => ?_)
    · replace h := oT hc1 h
      refine z_iload_n dX8_inAll_28 1 rfl ?_
      cases h
      exact z_iret dX8_inAll_29 rfl
    · replace h := oF hc1 h
      refine z_iload_n dX8_inAll_10 0 rfl ?_
      refine z_iload_n dX8_inAll_11 2 rfl ?_
      refine z_ishr dX8_inAll_12 ?_
      refine z_iconst (M := mX8_inAll) (v := 1) dX8_inAll_13 rfl ?_
      refine z_iand dX8_inAll_14 ?_
      refine z_if_eq 22 dX8_inAll_15 rfl (fun hc2 => ?_) (fun hc2 => ?_)
      · replace h := oT hc2 h
        exact t_Sp_inAll_22 hd0 ih x0 x2 x3 _ h
      · replace h := oF hc2 h
        refine z_iload_n dX8_inAll_18 1 rfl ?_
        refine z_iload_n dX8_inAll_19 2 rfl ?_
        refine z_iand dX8_inAll_20 ?_
        refine z_istore_n (M := mX8_inAll) (lv2 := [(2, .int (x2 &&& x3)), (0, .int x0), (3, .int x3)]) dX8_inAll_21 (Nat.le_of_ble_eq_true rfl) rfl ?_
        refine z_lv (lv2 := [(0, .int x0), (2, .int (x2 &&& x3)), (3, .int x3)]) [1, 0, 2] rfl ?_
        exact t_Sp_inAll_22 hd0 ih x0 (x2 &&& x3) x3 _ h
def Sp_inAll (x0 : Int32) (x1 : Int32) : Option Int32 :=
  Sp_inAll_4 FU x0 x1 (0 : Int32)
set_option maxRecDepth 100000 in
set_option maxHeartbeats 4000000 in
theorem t_Sp_inAll {g : GG} {d : Nat} {μ : Mm} (hd0 : 1 ≤ d) : ∀ (x0 : Int32) (x1 : Int32) (r : Int32), Sp_inAll x0 x1 = some r → Z g d (0, 0) mX8_inAll 333 0 0 0 [(0, .int x0), (1, .int x1)] [] μ (zF g (some (.int r), μ)) := by
  intro x0 x1 r h
  unfold Sp_inAll at h
  refine z_iload_n dX8_inAll_0 1 rfl ?_
  refine z_istore_n (M := mX8_inAll) (lv2 := [(2, .int x1), (0, .int x0), (1, .int x1)]) dX8_inAll_1 (Nat.le_of_ble_eq_true rfl) rfl ?_
  refine z_iconst (M := mX8_inAll) (v := 0) dX8_inAll_2 rfl ?_
  refine z_istore_n (M := mX8_inAll) (lv2 := [(3, .int (0 : Int32)), (2, .int x1), (0, .int x0), (1, .int x1)]) dX8_inAll_3 (Nat.le_of_ble_eq_true rfl) rfl ?_
  refine z_lv (lv2 := [(0, .int x0), (2, .int x1), (3, .int (0 : Int32))]) [2, 1, 0] rfl ?_
  exact t_Sp_inAll_4 hd0 FU x0 x1 (0 : Int32) _ h
theorem ct_Sp_inAll {g : GG} {d : Nat} {x0 : Int32} {x1 : Int32} {μ : Mm} {r : Int32} (hd0 : 1 ≤ d)  (h : Sp_inAll x0 x1 = some r) : Ct g d mX8_inAll [.int x0, .int x1] μ (some (.int r), μ) := y_entry in_X8_inAll (Nat.le_of_ble_eq_true rfl) rfl (t_Sp_inAll hd0 x0 x1 r h)
-- FuseMinutes$Suspects.inNone(II)I
theorem dX8_inNone_0 : decode cX8_inNone 0 = .ok (.iload_n 1, 1) := by decide +kernel
theorem dX8_inNone_1 : decode cX8_inNone 1 = .ok (.istore_n 2, 1) := by decide +kernel
theorem dX8_inNone_2 : decode cX8_inNone 2 = .ok (.iconst 0, 1) := by decide +kernel
theorem dX8_inNone_3 : decode cX8_inNone 3 = .ok (.istore_n 3, 1) := by decide +kernel
theorem dX8_inNone_4 : decode cX8_inNone 4 = .ok (.iload_n 3, 1) := by decide +kernel
theorem dX8_inNone_5 : decode cX8_inNone 5 = .ok (.bipush 16, 2) := by decide +kernel
theorem dX8_inNone_7 : decode cX8_inNone 7 = .ok (.if_icmp .ge 23, 3) := by decide +kernel
theorem dX8_inNone_10 : decode cX8_inNone 10 = .ok (.iload_n 0, 1) := by decide +kernel
theorem dX8_inNone_11 : decode cX8_inNone 11 = .ok (.iload_n 3, 1) := by decide +kernel
theorem dX8_inNone_12 : decode cX8_inNone 12 = .ok (.ishr, 1) := by decide +kernel
theorem dX8_inNone_13 : decode cX8_inNone 13 = .ok (.iconst 1, 1) := by decide +kernel
theorem dX8_inNone_14 : decode cX8_inNone 14 = .ok (.iand, 1) := by decide +kernel
theorem dX8_inNone_15 : decode cX8_inNone 15 = .ok (.ifCond .eq 9, 3) := by decide +kernel
theorem dX8_inNone_18 : decode cX8_inNone 18 = .ok (.iload_n 2, 1) := by decide +kernel
theorem dX8_inNone_19 : decode cX8_inNone 19 = .ok (.iload_n 3, 1) := by decide +kernel
theorem dX8_inNone_20 : decode cX8_inNone 20 = .ok (.iconst (-1), 1) := by decide +kernel
theorem dX8_inNone_21 : decode cX8_inNone 21 = .ok (.ixor, 1) := by decide +kernel
theorem dX8_inNone_22 : decode cX8_inNone 22 = .ok (.iand, 1) := by decide +kernel
theorem dX8_inNone_23 : decode cX8_inNone 23 = .ok (.istore_n 2, 1) := by decide +kernel
theorem dX8_inNone_24 : decode cX8_inNone 24 = .ok (.iinc 3 1, 3) := by decide +kernel
theorem dX8_inNone_27 : decode cX8_inNone 27 = .ok (.goto (-23), 3) := by decide +kernel
theorem dX8_inNone_30 : decode cX8_inNone 30 = .ok (.iload_n 2, 1) := by decide +kernel
theorem dX8_inNone_31 : decode cX8_inNone 31 = .ok (.ireturn, 1) := by decide +kernel
def Sp_inNone_24 (k4 : Int32 → Int32 → Int32 → Option Int32) (x0 : Int32) (x2 : Int32) (x3 : Int32) : Option Int32 :=
  k4 x0 x2 (x3 + (1 : Int32))
set_option maxRecDepth 100000 in
set_option maxHeartbeats 4000000 in
theorem t_Sp_inNone_24 {g : GG} {d : Nat} {μ : Mm} (hd0 : 1 ≤ d) {k4 : Int32 → Int32 → Int32 → Option Int32} (hk4 : ∀ (x0 : Int32) (x2 : Int32) (x3 : Int32) (r : Int32), k4 x0 x2 x3 = some r → Z g d (0, 0) mX8_inNone 333 0 0 4 [(0, .int x0), (2, .int x2), (3, .int x3)] [] μ (zF g (some (.int r), μ))) : ∀ (x0 : Int32) (x2 : Int32) (x3 : Int32) (r : Int32), Sp_inNone_24 k4 x0 x2 x3 = some r → Z g d (0, 0) mX8_inNone 333 0 0 24 [(0, .int x0), (2, .int x2), (3, .int x3)] [] μ (zF g (some (.int r), μ)) := by
  intro x0 x2 x3 r h
  unfold Sp_inNone_24 at h
  refine z_iinc (M := mX8_inNone) (v := (x3 + (1 : Int32))) (lv2 := [(3, .int (x3 + (1 : Int32))), (0, .int x0), (2, .int x2)]) dX8_inNone_24 2 rfl rfl (Nat.le_of_ble_eq_true rfl) rfl ?_
  refine z_goto 4 dX8_inNone_27 rfl ?_
  refine z_lv (lv2 := [(0, .int x0), (2, .int x2), (3, .int (x3 + (1 : Int32)))]) [1, 2, 0] rfl ?_
  exact hk4 x0 x2 (x3 + (1 : Int32)) _ h
def Sp_inNone_4 : Nat → Int32 → Int32 → Int32 → Option Int32
  | 0, _, _, _ => none
  | f + 1, x0, x2, x3 =>
    (if (16 : Int32) ≤ x3 then
      some x2
    else
      (if ((x0 >>> (x3 &&& 31)) &&& (1 : Int32)) = 0 then
        Sp_inNone_24 (Sp_inNone_4 f) x0 x2 x3
      else
        Sp_inNone_24 (Sp_inNone_4 f) x0 (x2 &&& (x3 ^^^ (-1 : Int32))) x3))
set_option maxRecDepth 100000 in
set_option maxHeartbeats 4000000 in
theorem t_Sp_inNone_4 {g : GG} {d : Nat} {μ : Mm} (hd0 : 1 ≤ d) : ∀ (f : Nat), ∀ (x0 : Int32) (x2 : Int32) (x3 : Int32) (r : Int32), Sp_inNone_4 f x0 x2 x3 = some r → Z g d (0, 0) mX8_inNone 333 0 0 4 [(0, .int x0), (2, .int x2), (3, .int x3)] [] μ (zF g (some (.int r), μ)) := by
  intro f
  induction f with
  | zero =>
    intro x0 x2 x3 r h
    cases h
  | succ f ih =>
    intro x0 x2 x3 r h
    rw [Sp_inNone_4] at h
    refine z_iload_n dX8_inNone_4 2 rfl ?_
    refine z_bipush (M := mX8_inNone) (v := 16) dX8_inNone_5 rfl ?_
    refine z_icmp_ge 30 dX8_inNone_7 rfl (fun hc1 => ?_) (fun hc1 => ?_)
    · replace h := oT hc1 h
      refine z_iload_n dX8_inNone_30 1 rfl ?_
      cases h
      exact z_iret dX8_inNone_31 rfl
    · replace h := oF hc1 h
      refine z_iload_n dX8_inNone_10 0 rfl ?_
      refine z_iload_n dX8_inNone_11 2 rfl ?_
      refine z_ishr dX8_inNone_12 ?_
      refine z_iconst (M := mX8_inNone) (v := 1) dX8_inNone_13 rfl ?_
      refine z_iand dX8_inNone_14 ?_
      refine z_if_eq 24 dX8_inNone_15 rfl (fun hc2 => ?_) (fun hc2 => ?_)
      · replace h := oT hc2 h
        exact t_Sp_inNone_24 hd0 ih x0 x2 x3 _ h
      · replace h := oF hc2 h
        refine z_iload_n dX8_inNone_18 1 rfl ?_
        refine z_iload_n dX8_inNone_19 2 rfl ?_
        refine z_iconst (M := mX8_inNone) (v := -1) dX8_inNone_20 rfl ?_
        refine z_ixor dX8_inNone_21 ?_
        refine z_iand dX8_inNone_22 ?_
        refine z_istore_n (M := mX8_inNone) (lv2 := [(2, .int (x2 &&& (x3 ^^^ (-1 : Int32)))), (0, .int x0), (3, .int x3)]) dX8_inNone_23 (Nat.le_of_ble_eq_true rfl) rfl ?_
        refine z_lv (lv2 := [(0, .int x0), (2, .int (x2 &&& (x3 ^^^ (-1 : Int32)))), (3, .int x3)]) [1, 0, 2] rfl ?_
        exact t_Sp_inNone_24 hd0 ih x0 (x2 &&& (x3 ^^^ (-1 : Int32))) x3 _ h
def Sp_inNone (x0 : Int32) (x1 : Int32) : Option Int32 :=
  Sp_inNone_4 FU x0 x1 (0 : Int32)
set_option maxRecDepth 100000 in
set_option maxHeartbeats 4000000 in
theorem t_Sp_inNone {g : GG} {d : Nat} {μ : Mm} (hd0 : 1 ≤ d) : ∀ (x0 : Int32) (x1 : Int32) (r : Int32), Sp_inNone x0 x1 = some r → Z g d (0, 0) mX8_inNone 333 0 0 0 [(0, .int x0), (1, .int x1)] [] μ (zF g (some (.int r), μ)) := by
  intro x0 x1 r h
  unfold Sp_inNone at h
  refine z_iload_n dX8_inNone_0 1 rfl ?_
  refine z_istore_n (M := mX8_inNone) (lv2 := [(2, .int x1), (0, .int x0), (1, .int x1)]) dX8_inNone_1 (Nat.le_of_ble_eq_true rfl) rfl ?_
  refine z_iconst (M := mX8_inNone) (v := 0) dX8_inNone_2 rfl ?_
  refine z_istore_n (M := mX8_inNone) (lv2 := [(3, .int (0 : Int32)), (2, .int x1), (0, .int x0), (1, .int x1)]) dX8_inNone_3 (Nat.le_of_ble_eq_true rfl) rfl ?_
  refine z_lv (lv2 := [(0, .int x0), (2, .int x1), (3, .int (0 : Int32))]) [2, 1, 0] rfl ?_
  exact t_Sp_inNone_4 hd0 FU x0 x1 (0 : Int32) _ h
theorem ct_Sp_inNone {g : GG} {d : Nat} {x0 : Int32} {x1 : Int32} {μ : Mm} {r : Int32} (hd0 : 1 ≤ d)  (h : Sp_inNone x0 x1 = some r) : Ct g d mX8_inNone [.int x0, .int x1] μ (some (.int r), μ) := y_entry in_X8_inNone (Nat.le_of_ble_eq_true rfl) rfl (t_Sp_inNone hd0 x0 x1 r h)
-- FuseMinutes$Suspects.lowest(I)I
theorem dX8_lowest_0 : decode cX8_lowest 0 = .ok (.iconst 0, 1) := by decide +kernel
theorem dX8_lowest_1 : decode cX8_lowest 1 = .ok (.istore_n 1, 1) := by decide +kernel
theorem dX8_lowest_2 : decode cX8_lowest 2 = .ok (.iload_n 1, 1) := by decide +kernel
theorem dX8_lowest_3 : decode cX8_lowest 3 = .ok (.bipush 16, 2) := by decide +kernel
theorem dX8_lowest_5 : decode cX8_lowest 5 = .ok (.if_icmp .ge 19, 3) := by decide +kernel
theorem dX8_lowest_8 : decode cX8_lowest 8 = .ok (.iload_n 0, 1) := by decide +kernel
theorem dX8_lowest_9 : decode cX8_lowest 9 = .ok (.iload_n 1, 1) := by decide +kernel
theorem dX8_lowest_10 : decode cX8_lowest 10 = .ok (.ishr, 1) := by decide +kernel
theorem dX8_lowest_11 : decode cX8_lowest 11 = .ok (.iconst 1, 1) := by decide +kernel
theorem dX8_lowest_12 : decode cX8_lowest 12 = .ok (.iand, 1) := by decide +kernel
theorem dX8_lowest_13 : decode cX8_lowest 13 = .ok (.ifCond .eq 5, 3) := by decide +kernel
theorem dX8_lowest_16 : decode cX8_lowest 16 = .ok (.iload_n 1, 1) := by decide +kernel
theorem dX8_lowest_17 : decode cX8_lowest 17 = .ok (.ireturn, 1) := by decide +kernel
theorem dX8_lowest_18 : decode cX8_lowest 18 = .ok (.iinc 1 1, 3) := by decide +kernel
theorem dX8_lowest_21 : decode cX8_lowest 21 = .ok (.goto (-19), 3) := by decide +kernel
theorem dX8_lowest_24 : decode cX8_lowest 24 = .ok (.iconst (-1), 1) := by decide +kernel
theorem dX8_lowest_25 : decode cX8_lowest 25 = .ok (.ireturn, 1) := by decide +kernel
def Sp_lowest_2 : Nat → Int32 → Int32 → Option Int32
  | 0, _, _ => none
  | f + 1, x0, x1 =>
    (if (16 : Int32) ≤ x1 then
      some (-1 : Int32)
    else
      (if ((x0 >>> (x1 &&& 31)) &&& (1 : Int32)) = 0 then
        (Sp_lowest_2 f) x0 (x1 + (1 : Int32))
      else
        some x1))
set_option maxRecDepth 100000 in
set_option maxHeartbeats 4000000 in
theorem t_Sp_lowest_2 {g : GG} {d : Nat} {μ : Mm} (hd0 : 1 ≤ d) : ∀ (f : Nat), ∀ (x0 : Int32) (x1 : Int32) (r : Int32), Sp_lowest_2 f x0 x1 = some r → Z g d (0, 0) mX8_lowest 333 0 0 2 [(0, .int x0), (1, .int x1)] [] μ (zF g (some (.int r), μ)) := by
  intro f
  induction f with
  | zero =>
    intro x0 x1 r h
    cases h
  | succ f ih =>
    intro x0 x1 r h
    rw [Sp_lowest_2] at h
    refine z_iload_n dX8_lowest_2 1 rfl ?_
    refine z_bipush (M := mX8_lowest) (v := 16) dX8_lowest_3 rfl ?_
    refine z_icmp_ge 24 dX8_lowest_5 rfl (fun hc1 => ?_) (fun hc1 => ?_)
    · replace h := oT hc1 h
      refine z_iconst (M := mX8_lowest) (v := -1) dX8_lowest_24 rfl ?_
      cases h
      exact z_iret dX8_lowest_25 rfl
    · replace h := oF hc1 h
      refine z_iload_n dX8_lowest_8 0 rfl ?_
      refine z_iload_n dX8_lowest_9 1 rfl ?_
      refine z_ishr dX8_lowest_10 ?_
      refine z_iconst (M := mX8_lowest) (v := 1) dX8_lowest_11 rfl ?_
      refine z_iand dX8_lowest_12 ?_
      refine z_if_eq 18 dX8_lowest_13 rfl (fun hc2 => ?_) (fun hc2 => ?_)
      · replace h := oT hc2 h
        refine z_iinc (M := mX8_lowest) (v := (x1 + (1 : Int32))) (lv2 := [(1, .int (x1 + (1 : Int32))), (0, .int x0)]) dX8_lowest_18 1 rfl rfl (Nat.le_of_ble_eq_true rfl) rfl ?_
        refine z_goto 2 dX8_lowest_21 rfl ?_
        refine z_lv (lv2 := [(0, .int x0), (1, .int (x1 + (1 : Int32)))]) [1, 0] rfl ?_
        exact ih x0 (x1 + (1 : Int32)) _ h
      · replace h := oF hc2 h
        refine z_iload_n dX8_lowest_16 1 rfl ?_
        cases h
        exact z_iret dX8_lowest_17 rfl
def Sp_lowest (x0 : Int32) : Option Int32 :=
  Sp_lowest_2 FU x0 (0 : Int32)
set_option maxRecDepth 100000 in
set_option maxHeartbeats 4000000 in
theorem t_Sp_lowest {g : GG} {d : Nat} {μ : Mm} (hd0 : 1 ≤ d) : ∀ (x0 : Int32) (r : Int32), Sp_lowest x0 = some r → Z g d (0, 0) mX8_lowest 333 0 0 0 [(0, .int x0)] [] μ (zF g (some (.int r), μ)) := by
  intro x0 r h
  unfold Sp_lowest at h
  refine z_iconst (M := mX8_lowest) (v := 0) dX8_lowest_0 rfl ?_
  refine z_istore_n (M := mX8_lowest) (lv2 := [(1, .int (0 : Int32)), (0, .int x0)]) dX8_lowest_1 (Nat.le_of_ble_eq_true rfl) rfl ?_
  refine z_lv (lv2 := [(0, .int x0), (1, .int (0 : Int32))]) [1, 0] rfl ?_
  exact t_Sp_lowest_2 hd0 FU x0 (0 : Int32) _ h
theorem ct_Sp_lowest {g : GG} {d : Nat} {x0 : Int32} {μ : Mm} {r : Int32} (hd0 : 1 ≤ d)  (h : Sp_lowest x0 = some r) : Ct g d mX8_lowest [.int x0] μ (some (.int r), μ) := y_entry in_X8_lowest (Nat.le_of_ble_eq_true rfl) rfl (t_Sp_lowest hd0 x0 r h)
-- FuseMinutes$Suspects.countFailing(II)I
theorem dX8_countFailing_0 : decode cX8_countFailing 0 = .ok (.iconst 0, 1) := by decide +kernel
theorem dX8_countFailing_1 : decode cX8_countFailing 1 = .ok (.istore_n 2, 1) := by decide +kernel
theorem dX8_countFailing_2 : decode cX8_countFailing 2 = .ok (.iconst 0, 1) := by decide +kernel
theorem dX8_countFailing_3 : decode cX8_countFailing 3 = .ok (.istore_n 3, 1) := by decide +kernel
theorem dX8_countFailing_4 : decode cX8_countFailing 4 = .ok (.iload_n 3, 1) := by decide +kernel
theorem dX8_countFailing_5 : decode cX8_countFailing 5 = .ok (.bipush 16, 2) := by decide +kernel
theorem dX8_countFailing_7 : decode cX8_countFailing 7 = .ok (.if_icmp .ge 26, 3) := by decide +kernel
theorem dX8_countFailing_10 : decode cX8_countFailing 10 = .ok (.iload_n 0, 1) := by decide +kernel
theorem dX8_countFailing_11 : decode cX8_countFailing 11 = .ok (.iload_n 3, 1) := by decide +kernel
theorem dX8_countFailing_12 : decode cX8_countFailing 12 = .ok (.ishr, 1) := by decide +kernel
theorem dX8_countFailing_13 : decode cX8_countFailing 13 = .ok (.iconst 1, 1) := by decide +kernel
theorem dX8_countFailing_14 : decode cX8_countFailing 14 = .ok (.iand, 1) := by decide +kernel
theorem dX8_countFailing_15 : decode cX8_countFailing 15 = .ok (.ifCond .eq 12, 3) := by decide +kernel
theorem dX8_countFailing_18 : decode cX8_countFailing 18 = .ok (.iload_n 3, 1) := by decide +kernel
theorem dX8_countFailing_19 : decode cX8_countFailing 19 = .ok (.iload_n 1, 1) := by decide +kernel
theorem dX8_countFailing_20 : decode cX8_countFailing 20 = .ok (.iand, 1) := by decide +kernel
theorem dX8_countFailing_21 : decode cX8_countFailing 21 = .ok (.ifCond .eq 6, 3) := by decide +kernel
theorem dX8_countFailing_24 : decode cX8_countFailing 24 = .ok (.iinc 2 1, 3) := by decide +kernel
theorem dX8_countFailing_27 : decode cX8_countFailing 27 = .ok (.iinc 3 1, 3) := by decide +kernel
theorem dX8_countFailing_30 : decode cX8_countFailing 30 = .ok (.goto (-26), 3) := by decide +kernel
theorem dX8_countFailing_33 : decode cX8_countFailing 33 = .ok (.iload_n 2, 1) := by decide +kernel
theorem dX8_countFailing_34 : decode cX8_countFailing 34 = .ok (.ireturn, 1) := by decide +kernel
def Sp_countFailing_27 (k4 : Int32 → Int32 → Int32 → Int32 → Option Int32) (x0 : Int32) (x1 : Int32) (x2 : Int32) (x3 : Int32) : Option Int32 :=
  k4 x0 x1 x2 (x3 + (1 : Int32))
set_option maxRecDepth 100000 in
set_option maxHeartbeats 4000000 in
theorem t_Sp_countFailing_27 {g : GG} {d : Nat} {μ : Mm} (hd0 : 1 ≤ d) {k4 : Int32 → Int32 → Int32 → Int32 → Option Int32} (hk4 : ∀ (x0 : Int32) (x1 : Int32) (x2 : Int32) (x3 : Int32) (r : Int32), k4 x0 x1 x2 x3 = some r → Z g d (0, 0) mX8_countFailing 333 0 0 4 [(0, .int x0), (1, .int x1), (2, .int x2), (3, .int x3)] [] μ (zF g (some (.int r), μ))) : ∀ (x0 : Int32) (x1 : Int32) (x2 : Int32) (x3 : Int32) (r : Int32), Sp_countFailing_27 k4 x0 x1 x2 x3 = some r → Z g d (0, 0) mX8_countFailing 333 0 0 27 [(0, .int x0), (1, .int x1), (2, .int x2), (3, .int x3)] [] μ (zF g (some (.int r), μ)) := by
  intro x0 x1 x2 x3 r h
  unfold Sp_countFailing_27 at h
  refine z_iinc (M := mX8_countFailing) (v := (x3 + (1 : Int32))) (lv2 := [(3, .int (x3 + (1 : Int32))), (0, .int x0), (1, .int x1), (2, .int x2)]) dX8_countFailing_27 3 rfl rfl (Nat.le_of_ble_eq_true rfl) rfl ?_
  refine z_goto 4 dX8_countFailing_30 rfl ?_
  refine z_lv (lv2 := [(0, .int x0), (1, .int x1), (2, .int x2), (3, .int (x3 + (1 : Int32)))]) [1, 2, 3, 0] rfl ?_
  exact hk4 x0 x1 x2 (x3 + (1 : Int32)) _ h
def Sp_countFailing_4 : Nat → Int32 → Int32 → Int32 → Int32 → Option Int32
  | 0, _, _, _, _ => none
  | f + 1, x0, x1, x2, x3 =>
    (if (16 : Int32) ≤ x3 then
      some x2
    else
      (if ((x0 >>> (x3 &&& 31)) &&& (1 : Int32)) = 0 then
        Sp_countFailing_27 (Sp_countFailing_4 f) x0 x1 x2 x3
      else
        (if (x3 &&& x1) = 0 then
          Sp_countFailing_27 (Sp_countFailing_4 f) x0 x1 x2 x3
        else
          Sp_countFailing_27 (Sp_countFailing_4 f) x0 x1 (x2 + (1 : Int32)) x3)))
set_option maxRecDepth 100000 in
set_option maxHeartbeats 4000000 in
theorem t_Sp_countFailing_4 {g : GG} {d : Nat} {μ : Mm} (hd0 : 1 ≤ d) : ∀ (f : Nat), ∀ (x0 : Int32) (x1 : Int32) (x2 : Int32) (x3 : Int32) (r : Int32), Sp_countFailing_4 f x0 x1 x2 x3 = some r → Z g d (0, 0) mX8_countFailing 333 0 0 4 [(0, .int x0), (1, .int x1), (2, .int x2), (3, .int x3)] [] μ (zF g (some (.int r), μ)) := by
  intro f
  induction f with
  | zero =>
    intro x0 x1 x2 x3 r h
    cases h
  | succ f ih =>
    intro x0 x1 x2 x3 r h
    rw [Sp_countFailing_4] at h
    refine z_iload_n dX8_countFailing_4 3 rfl ?_
    refine z_bipush (M := mX8_countFailing) (v := 16) dX8_countFailing_5 rfl ?_
    refine z_icmp_ge 33 dX8_countFailing_7 rfl (fun hc1 => ?_) (fun hc1 => ?_)
    · replace h := oT hc1 h
      refine z_iload_n dX8_countFailing_33 2 rfl ?_
      cases h
      exact z_iret dX8_countFailing_34 rfl
    · replace h := oF hc1 h
      refine z_iload_n dX8_countFailing_10 0 rfl ?_
      refine z_iload_n dX8_countFailing_11 3 rfl ?_
      refine z_ishr dX8_countFailing_12 ?_
      refine z_iconst (M := mX8_countFailing) (v := 1) dX8_countFailing_13 rfl ?_
      refine z_iand dX8_countFailing_14 ?_
      refine z_if_eq 27 dX8_countFailing_15 rfl (fun hc2 => ?_) (fun hc2 => ?_)
      · replace h := oT hc2 h
        exact t_Sp_countFailing_27 hd0 ih x0 x1 x2 x3 _ h
      · replace h := oF hc2 h
        refine z_iload_n dX8_countFailing_18 3 rfl ?_
        refine z_iload_n dX8_countFailing_19 1 rfl ?_
        refine z_iand dX8_countFailing_20 ?_
        refine z_if_eq 27 dX8_countFailing_21 rfl (fun hc3 => ?_) (fun hc3 => ?_)
        · replace h := oT hc3 h
          exact t_Sp_countFailing_27 hd0 ih x0 x1 x2 x3 _ h
        · replace h := oF hc3 h
          refine z_iinc (M := mX8_countFailing) (v := (x2 + (1 : Int32))) (lv2 := [(2, .int (x2 + (1 : Int32))), (0, .int x0), (1, .int x1), (3, .int x3)]) dX8_countFailing_24 2 rfl rfl (Nat.le_of_ble_eq_true rfl) rfl ?_
          refine z_lv (lv2 := [(0, .int x0), (1, .int x1), (2, .int (x2 + (1 : Int32))), (3, .int x3)]) [1, 2, 0, 3] rfl ?_
          exact t_Sp_countFailing_27 hd0 ih x0 x1 (x2 + (1 : Int32)) x3 _ h
def Sp_countFailing (x0 : Int32) (x1 : Int32) : Option Int32 :=
  Sp_countFailing_4 FU x0 x1 (0 : Int32) (0 : Int32)
set_option maxRecDepth 100000 in
set_option maxHeartbeats 4000000 in
theorem t_Sp_countFailing {g : GG} {d : Nat} {μ : Mm} (hd0 : 1 ≤ d) : ∀ (x0 : Int32) (x1 : Int32) (r : Int32), Sp_countFailing x0 x1 = some r → Z g d (0, 0) mX8_countFailing 333 0 0 0 [(0, .int x0), (1, .int x1)] [] μ (zF g (some (.int r), μ)) := by
  intro x0 x1 r h
  unfold Sp_countFailing at h
  refine z_iconst (M := mX8_countFailing) (v := 0) dX8_countFailing_0 rfl ?_
  refine z_istore_n (M := mX8_countFailing) (lv2 := [(2, .int (0 : Int32)), (0, .int x0), (1, .int x1)]) dX8_countFailing_1 (Nat.le_of_ble_eq_true rfl) rfl ?_
  refine z_iconst (M := mX8_countFailing) (v := 0) dX8_countFailing_2 rfl ?_
  refine z_istore_n (M := mX8_countFailing) (lv2 := [(3, .int (0 : Int32)), (2, .int (0 : Int32)), (0, .int x0), (1, .int x1)]) dX8_countFailing_3 (Nat.le_of_ble_eq_true rfl) rfl ?_
  refine z_lv (lv2 := [(0, .int x0), (1, .int x1), (2, .int (0 : Int32)), (3, .int (0 : Int32))]) [2, 3, 1, 0] rfl ?_
  exact t_Sp_countFailing_4 hd0 FU x0 x1 (0 : Int32) (0 : Int32) _ h
theorem ct_Sp_countFailing {g : GG} {d : Nat} {x0 : Int32} {x1 : Int32} {μ : Mm} {r : Int32} (hd0 : 1 ≤ d)  (h : Sp_countFailing x0 x1 = some r) : Ct g d mX8_countFailing [.int x0, .int x1] μ (some (.int r), μ) := y_entry in_X8_countFailing (Nat.le_of_ble_eq_true rfl) rfl (t_Sp_countFailing hd0 x0 x1 r h)
-- FuseMinutes$Suspects.bestTrial(II)I
theorem dX8_bestTrial_0 : decode cX8_bestTrial 0 = .ok (.iconst (-1), 1) := by decide +kernel
theorem dX8_bestTrial_1 : decode cX8_bestTrial 1 = .ok (.istore_n 2, 1) := by decide +kernel
theorem dX8_bestTrial_2 : decode cX8_bestTrial 2 = .ok (.iconst 0, 1) := by decide +kernel
theorem dX8_bestTrial_3 : decode cX8_bestTrial 3 = .ok (.istore_n 3, 1) := by decide +kernel
theorem dX8_bestTrial_4 : decode cX8_bestTrial 4 = .ok (.iconst 1, 1) := by decide +kernel
theorem dX8_bestTrial_5 : decode cX8_bestTrial 5 = .ok (.istore 4, 2) := by decide +kernel
theorem dX8_bestTrial_7 : decode cX8_bestTrial 7 = .ok (.iload 4, 2) := by decide +kernel
theorem dX8_bestTrial_9 : decode cX8_bestTrial 9 = .ok (.iload_n 1, 1) := by decide +kernel
theorem dX8_bestTrial_10 : decode cX8_bestTrial 10 = .ok (.if_icmp .gt 48, 3) := by decide +kernel
theorem dX8_bestTrial_13 : decode cX8_bestTrial 13 = .ok (.iload_n 0, 1) := by decide +kernel
theorem dX8_bestTrial_14 : decode cX8_bestTrial 14 = .ok (.iload 4, 2) := by decide +kernel
theorem dX8_bestTrial_16 : decode cX8_bestTrial 16 = .ok (.invokestatic 19, 3) := by decide +kernel
theorem dX8_bestTrial_19 : decode cX8_bestTrial 19 = .ok (.istore 5, 2) := by decide +kernel
theorem dX8_bestTrial_21 : decode cX8_bestTrial 21 = .ok (.iload 5, 2) := by decide +kernel
theorem dX8_bestTrial_23 : decode cX8_bestTrial 23 = .ok (.iload_n 0, 1) := by decide +kernel
theorem dX8_bestTrial_24 : decode cX8_bestTrial 24 = .ok (.invokestatic 25, 3) := by decide +kernel
theorem dX8_bestTrial_27 : decode cX8_bestTrial 27 = .ok (.iload 5, 2) := by decide +kernel
theorem dX8_bestTrial_29 : decode cX8_bestTrial 29 = .ok (.isub, 1) := by decide +kernel
theorem dX8_bestTrial_30 : decode cX8_bestTrial 30 = .ok (.invokestatic 31, 3) := by decide +kernel
theorem dX8_bestTrial_33 : decode cX8_bestTrial 33 = .ok (.istore 6, 2) := by decide +kernel
theorem dX8_bestTrial_35 : decode cX8_bestTrial 35 = .ok (.iload_n 2, 1) := by decide +kernel
theorem dX8_bestTrial_36 : decode cX8_bestTrial 36 = .ok (.iconst (-1), 1) := by decide +kernel
theorem dX8_bestTrial_37 : decode cX8_bestTrial 37 = .ok (.if_icmp .eq 9, 3) := by decide +kernel
theorem dX8_bestTrial_40 : decode cX8_bestTrial 40 = .ok (.iload 6, 2) := by decide +kernel
theorem dX8_bestTrial_42 : decode cX8_bestTrial 42 = .ok (.iload_n 3, 1) := by decide +kernel
theorem dX8_bestTrial_43 : decode cX8_bestTrial 43 = .ok (.if_icmp .ge 9, 3) := by decide +kernel
theorem dX8_bestTrial_46 : decode cX8_bestTrial 46 = .ok (.iload 4, 2) := by decide +kernel
theorem dX8_bestTrial_48 : decode cX8_bestTrial 48 = .ok (.istore_n 2, 1) := by decide +kernel
theorem dX8_bestTrial_49 : decode cX8_bestTrial 49 = .ok (.iload 6, 2) := by decide +kernel
theorem dX8_bestTrial_51 : decode cX8_bestTrial 51 = .ok (.istore_n 3, 1) := by decide +kernel
theorem dX8_bestTrial_52 : decode cX8_bestTrial 52 = .ok (.iinc 4 1, 3) := by decide +kernel
theorem dX8_bestTrial_55 : decode cX8_bestTrial 55 = .ok (.goto (-48), 3) := by decide +kernel
theorem dX8_bestTrial_58 : decode cX8_bestTrial 58 = .ok (.iload_n 2, 1) := by decide +kernel
theorem dX8_bestTrial_59 : decode cX8_bestTrial 59 = .ok (.ireturn, 1) := by decide +kernel
def Sp_bestTrial_52 (k7 : Int32 → Int32 → Int32 → Int32 → Int32 → Option Int32) (x0 : Int32) (x1 : Int32) (x2 : Int32) (x3 : Int32) (x4 : Int32) : Option Int32 :=
  k7 x0 x1 x2 x3 (x4 + (1 : Int32))
set_option maxRecDepth 100000 in
set_option maxHeartbeats 4000000 in
theorem t_Sp_bestTrial_52 {g : GG} {d : Nat} {μ : Mm} (hd0 : 2 ≤ d) {k7 : Int32 → Int32 → Int32 → Int32 → Int32 → Option Int32} (hk7 : ∀ (x0 : Int32) (x1 : Int32) (x2 : Int32) (x3 : Int32) (x4 : Int32) (r : Int32), k7 x0 x1 x2 x3 x4 = some r → Z g d (0, 0) mX8_bestTrial 333 0 0 7 [(0, .int x0), (1, .int x1), (2, .int x2), (3, .int x3), (4, .int x4)] [] μ (zF g (some (.int r), μ))) : ∀ (x0 : Int32) (x1 : Int32) (x2 : Int32) (x3 : Int32) (x4 : Int32) (r : Int32), Sp_bestTrial_52 k7 x0 x1 x2 x3 x4 = some r → Z g d (0, 0) mX8_bestTrial 333 0 0 52 [(0, .int x0), (1, .int x1), (2, .int x2), (3, .int x3), (4, .int x4)] [] μ (zF g (some (.int r), μ)) := by
  intro x0 x1 x2 x3 x4 r h
  unfold Sp_bestTrial_52 at h
  refine z_iinc (M := mX8_bestTrial) (v := (x4 + (1 : Int32))) (lv2 := [(4, .int (x4 + (1 : Int32))), (0, .int x0), (1, .int x1), (2, .int x2), (3, .int x3)]) dX8_bestTrial_52 4 rfl rfl (Nat.le_of_ble_eq_true rfl) rfl ?_
  refine z_goto 7 dX8_bestTrial_55 rfl ?_
  refine z_lv (lv2 := [(0, .int x0), (1, .int x1), (2, .int x2), (3, .int x3), (4, .int (x4 + (1 : Int32)))]) [1, 2, 3, 4, 0] rfl ?_
  exact hk7 x0 x1 x2 x3 (x4 + (1 : Int32)) _ h
def Sp_bestTrial_46 (k7 : Int32 → Int32 → Int32 → Int32 → Int32 → Option Int32) (x0 : Int32) (x1 : Int32) (x4 : Int32) (x6 : Int32) : Option Int32 :=
  Sp_bestTrial_52 k7 x0 x1 x4 x6 x4
set_option maxRecDepth 100000 in
set_option maxHeartbeats 4000000 in
theorem t_Sp_bestTrial_46 {g : GG} {d : Nat} {μ : Mm} (hd0 : 2 ≤ d) {k7 : Int32 → Int32 → Int32 → Int32 → Int32 → Option Int32} (hk7 : ∀ (x0 : Int32) (x1 : Int32) (x2 : Int32) (x3 : Int32) (x4 : Int32) (r : Int32), k7 x0 x1 x2 x3 x4 = some r → Z g d (0, 0) mX8_bestTrial 333 0 0 7 [(0, .int x0), (1, .int x1), (2, .int x2), (3, .int x3), (4, .int x4)] [] μ (zF g (some (.int r), μ))) : ∀ (x0 : Int32) (x1 : Int32) (x4 : Int32) (x6 : Int32) (r : Int32), Sp_bestTrial_46 k7 x0 x1 x4 x6 = some r → Z g d (0, 0) mX8_bestTrial 333 0 0 46 [(0, .int x0), (1, .int x1), (4, .int x4), (6, .int x6)] [] μ (zF g (some (.int r), μ)) := by
  intro x0 x1 x4 x6 r h
  unfold Sp_bestTrial_46 at h
  refine z_iload dX8_bestTrial_46 2 rfl ?_
  refine z_istore_n (M := mX8_bestTrial) (lv2 := [(2, .int x4), (0, .int x0), (1, .int x1), (4, .int x4), (6, .int x6)]) dX8_bestTrial_48 (Nat.le_of_ble_eq_true rfl) rfl ?_
  refine z_iload dX8_bestTrial_49 4 rfl ?_
  refine z_istore_n (M := mX8_bestTrial) (lv2 := [(3, .int x6), (2, .int x4), (0, .int x0), (1, .int x1), (4, .int x4), (6, .int x6)]) dX8_bestTrial_51 (Nat.le_of_ble_eq_true rfl) rfl ?_
  refine z_lv (lv2 := [(0, .int x0), (1, .int x1), (2, .int x4), (3, .int x6), (4, .int x4)]) [2, 3, 1, 0, 4] rfl ?_
  exact t_Sp_bestTrial_52 hd0 hk7 x0 x1 x4 x6 x4 _ h
def Sp_bestTrial_7 : Nat → Int32 → Int32 → Int32 → Int32 → Int32 → Option Int32
  | 0, _, _, _, _, _ => none
  | f + 1, x0, x1, x2, x3, x4 =>
    (if x1 < x4 then
      some x2
    else
      (Sp_countFailing x0 x4).bind fun v2 =>
      (In_bitCount x0).bind fun v3 =>
      (if x2 = (-1 : Int32) then
        Sp_bestTrial_46 (Sp_bestTrial_7 f) x0 x1 x4 (imax v2 (v3 - v2))
      else
        (if x3 ≤ (imax v2 (v3 - v2)) then
          Sp_bestTrial_52 (Sp_bestTrial_7 f) x0 x1 x2 x3 x4
        else
          Sp_bestTrial_46 (Sp_bestTrial_7 f) x0 x1 x4 (imax v2 (v3 - v2)))))
set_option maxRecDepth 100000 in
set_option maxHeartbeats 4000000 in
theorem t_Sp_bestTrial_7 {g : GG} {d : Nat} {μ : Mm} (hd0 : 2 ≤ d) : ∀ (f : Nat), ∀ (x0 : Int32) (x1 : Int32) (x2 : Int32) (x3 : Int32) (x4 : Int32) (r : Int32), Sp_bestTrial_7 f x0 x1 x2 x3 x4 = some r → Z g d (0, 0) mX8_bestTrial 333 0 0 7 [(0, .int x0), (1, .int x1), (2, .int x2), (3, .int x3), (4, .int x4)] [] μ (zF g (some (.int r), μ)) := by
  intro f
  induction f with
  | zero =>
    intro x0 x1 x2 x3 x4 r h
    cases h
  | succ f ih =>
    intro x0 x1 x2 x3 x4 r h
    rw [Sp_bestTrial_7] at h
    refine z_iload dX8_bestTrial_7 4 rfl ?_
    refine z_iload_n dX8_bestTrial_9 1 rfl ?_
    refine z_icmp_gt 58 dX8_bestTrial_10 rfl (fun hc1 => ?_) (fun hc1 => ?_)
    · replace h := oT hc1 h
      refine z_iload_n dX8_bestTrial_58 2 rfl ?_
      cases h
      exact z_iret dX8_bestTrial_59 rfl
    · replace h := oF hc1 h
      refine z_iload_n dX8_bestTrial_13 0 rfl ?_
      refine z_iload dX8_bestTrial_14 4 rfl ?_
      obtain ⟨v2, he2, h⟩ := obind h
      refine y_Si (M := mX8_bestTrial) (Y := mX8_countFailing) (d2 := d - 1) (As := [.int x0, .int x4]) (st := []) dX8_bestTrial_16 mlRX8_19 cv_X8_countFailing (ct_Sp_countFailing (dle (Nat.le_of_ble_eq_true rfl) hd0) he2) (dps (Nat.le_of_ble_eq_true rfl) hd0) rfl rfl (Nat.le_of_ble_eq_true rfl) ?_
      refine z_istore (M := mX8_bestTrial) (lv2 := [(5, .int v2), (0, .int x0), (1, .int x1), (2, .int x2), (3, .int x3), (4, .int x4)]) dX8_bestTrial_19 (Nat.le_of_ble_eq_true rfl) rfl ?_
      refine z_iload dX8_bestTrial_21 0 rfl ?_
      refine z_iload_n dX8_bestTrial_23 1 rfl ?_
      obtain ⟨v3, he3, h⟩ := obind h
      refine y_Si (M := mX8_bestTrial) (Y := mJ6_bitCount_0f7a4) (d2 := d - 1) (As := [.int x0]) (st := [.int v2]) dX8_bestTrial_24 mlRX8_25 cv_J6_bitCount_0f7a4 (ct_In_bitCount (dle (Nat.le_of_ble_eq_true rfl) hd0) he3) (dps (Nat.le_of_ble_eq_true rfl) hd0) rfl rfl (Nat.le_of_ble_eq_true rfl) ?_
      refine z_iload dX8_bestTrial_27 0 rfl ?_
      refine z_isub dX8_bestTrial_29 ?_
      refine y_mmax dX8_bestTrial_30 mlRX8_31 mw_mmax (Nat.le_trans (Nat.le_of_ble_eq_true rfl) hd0) (Nat.le_of_ble_eq_true rfl) ?_
      refine z_istore (M := mX8_bestTrial) (lv2 := [(6, .int (imax v2 (v3 - v2))), (5, .int v2), (0, .int x0), (1, .int x1), (2, .int x2), (3, .int x3), (4, .int x4)]) dX8_bestTrial_33 (Nat.le_of_ble_eq_true rfl) rfl ?_
      refine z_iload_n dX8_bestTrial_35 4 rfl ?_
      refine z_iconst (M := mX8_bestTrial) (v := -1) dX8_bestTrial_36 rfl ?_
      refine z_icmp_eq 46 dX8_bestTrial_37 rfl (fun hc4 => ?_) (fun hc4 => ?_)
      · replace h := oT hc4 h
        refine z_lv (lv2 := [(0, .int x0), (1, .int x1), (4, .int x4), (6, .int (imax v2 (v3 - v2)))]) [2, 3, 6, 0] rfl ?_
        exact t_Sp_bestTrial_46 hd0 ih x0 x1 x4 (imax v2 (v3 - v2)) _ h
      · replace h := oF hc4 h
        refine z_iload dX8_bestTrial_40 0 rfl ?_
        refine z_iload_n dX8_bestTrial_42 5 rfl ?_
        refine z_icmp_ge 52 dX8_bestTrial_43 rfl (fun hc5 => ?_) (fun hc5 => ?_)
        · replace h := oT hc5 h
          refine z_lv (lv2 := [(0, .int x0), (1, .int x1), (2, .int x2), (3, .int x3), (4, .int x4)]) [2, 3, 4, 5, 6] rfl ?_
          exact t_Sp_bestTrial_52 hd0 ih x0 x1 x2 x3 x4 _ h
        · replace h := oF hc5 h
          refine z_lv (lv2 := [(0, .int x0), (1, .int x1), (4, .int x4), (6, .int (imax v2 (v3 - v2)))]) [2, 3, 6, 0] rfl ?_
          exact t_Sp_bestTrial_46 hd0 ih x0 x1 x4 (imax v2 (v3 - v2)) _ h
def Sp_bestTrial (x0 : Int32) (x1 : Int32) : Option Int32 :=
  Sp_bestTrial_7 FU x0 x1 (-1 : Int32) (0 : Int32) (1 : Int32)
set_option maxRecDepth 100000 in
set_option maxHeartbeats 4000000 in
theorem t_Sp_bestTrial {g : GG} {d : Nat} {μ : Mm} (hd0 : 2 ≤ d) : ∀ (x0 : Int32) (x1 : Int32) (r : Int32), Sp_bestTrial x0 x1 = some r → Z g d (0, 0) mX8_bestTrial 333 0 0 0 [(0, .int x0), (1, .int x1)] [] μ (zF g (some (.int r), μ)) := by
  intro x0 x1 r h
  unfold Sp_bestTrial at h
  refine z_iconst (M := mX8_bestTrial) (v := -1) dX8_bestTrial_0 rfl ?_
  refine z_istore_n (M := mX8_bestTrial) (lv2 := [(2, .int (-1 : Int32)), (0, .int x0), (1, .int x1)]) dX8_bestTrial_1 (Nat.le_of_ble_eq_true rfl) rfl ?_
  refine z_iconst (M := mX8_bestTrial) (v := 0) dX8_bestTrial_2 rfl ?_
  refine z_istore_n (M := mX8_bestTrial) (lv2 := [(3, .int (0 : Int32)), (2, .int (-1 : Int32)), (0, .int x0), (1, .int x1)]) dX8_bestTrial_3 (Nat.le_of_ble_eq_true rfl) rfl ?_
  refine z_iconst (M := mX8_bestTrial) (v := 1) dX8_bestTrial_4 rfl ?_
  refine z_istore (M := mX8_bestTrial) (lv2 := [(4, .int (1 : Int32)), (3, .int (0 : Int32)), (2, .int (-1 : Int32)), (0, .int x0), (1, .int x1)]) dX8_bestTrial_5 (Nat.le_of_ble_eq_true rfl) rfl ?_
  refine z_lv (lv2 := [(0, .int x0), (1, .int x1), (2, .int (-1 : Int32)), (3, .int (0 : Int32)), (4, .int (1 : Int32))]) [3, 4, 2, 1, 0] rfl ?_
  exact t_Sp_bestTrial_7 hd0 FU x0 x1 (-1 : Int32) (0 : Int32) (1 : Int32) _ h
theorem ct_Sp_bestTrial {g : GG} {d : Nat} {x0 : Int32} {x1 : Int32} {μ : Mm} {r : Int32} (hd0 : 2 ≤ d)  (h : Sp_bestTrial x0 x1 = some r) : Ct g d mX8_bestTrial [.int x0, .int x1] μ (some (.int r), μ) := y_entry in_X8_bestTrial (Nat.le_of_ble_eq_true rfl) rfl (t_Sp_bestTrial hd0 x0 x1 r h)
-- FuseMinutes$Text.clear()V
theorem dX9_clear_0 : decode cX9_clear 0 = .ok (.aload_n 0, 1) := by decide +kernel
theorem dX9_clear_1 : decode cX9_clear 1 = .ok (.iconst 0, 1) := by decide +kernel
theorem dX9_clear_2 : decode cX9_clear 2 = .ok (.putfield 30, 3) := by decide +kernel
theorem dX9_clear_5 : decode cX9_clear 5 = .ok (.aload_n 0, 1) := by decide +kernel
theorem dX9_clear_6 : decode cX9_clear 6 = .ok (.iconst 0, 1) := by decide +kernel
theorem dX9_clear_7 : decode cX9_clear 7 = .ok (.putfield 34, 3) := by decide +kernel
theorem dX9_clear_10 : decode cX9_clear 10 = .ok (.iconst 0, 1) := by decide +kernel
theorem dX9_clear_11 : decode cX9_clear 11 = .ok (.istore_n 1, 1) := by decide +kernel
theorem dX9_clear_12 : decode cX9_clear 12 = .ok (.iload_n 1, 1) := by decide +kernel
theorem dX9_clear_13 : decode cX9_clear 13 = .ok (.iconst 1, 1) := by decide +kernel
theorem dX9_clear_14 : decode cX9_clear 14 = .ok (.if_icmp .gt 23, 3) := by decide +kernel
theorem dX9_clear_17 : decode cX9_clear 17 = .ok (.aload_n 0, 1) := by decide +kernel
theorem dX9_clear_18 : decode cX9_clear 18 = .ok (.getfield 24, 3) := by decide +kernel
theorem dX9_clear_21 : decode cX9_clear 21 = .ok (.iload_n 1, 1) := by decide +kernel
theorem dX9_clear_22 : decode cX9_clear 22 = .ok (.iconst 0, 1) := by decide +kernel
theorem dX9_clear_23 : decode cX9_clear 23 = .ok (.iastore, 1) := by decide +kernel
theorem dX9_clear_24 : decode cX9_clear 24 = .ok (.aload_n 0, 1) := by decide +kernel
theorem dX9_clear_25 : decode cX9_clear 25 = .ok (.getfield 27, 3) := by decide +kernel
theorem dX9_clear_28 : decode cX9_clear 28 = .ok (.iload_n 1, 1) := by decide +kernel
theorem dX9_clear_29 : decode cX9_clear 29 = .ok (.iconst 0, 1) := by decide +kernel
theorem dX9_clear_30 : decode cX9_clear 30 = .ok (.iastore, 1) := by decide +kernel
theorem dX9_clear_31 : decode cX9_clear 31 = .ok (.iinc 1 1, 3) := by decide +kernel
theorem dX9_clear_34 : decode cX9_clear 34 = .ok (.goto (-22), 3) := by decide +kernel
theorem dX9_clear_37 : decode cX9_clear 37 = .ok (.return_, 1) := by decide +kernel
def Tx_clear_12 : Nat → Nat → Int32 → Nm → Option Nm
  | 0, _, _, _ => none
  | f + 1, x0, x1, ν =>
    (if (1 : Int32) < x1 then
      some ν
    else
      if inb x1 2 then
      if inb x1 2 then
      (Tx_clear_12 f) x0 (x1 + (1 : Int32)) (si (si ν (x0 + 5) x1.toNatClampNeg (0 : Int32)) (x0 + 6) x1.toNatClampNeg (0 : Int32))
      else none
      else none)
set_option maxRecDepth 100000 in
set_option maxHeartbeats 4000000 in
theorem t_Tx_clear_12 {g : GG} {d : Nat} (hd0 : 1 ≤ d) : ∀ (f : Nat), ∀ (x0 : Nat) (x1 : Int32) (ν : Nm) (r : Nm), zk 333 x0 (7, 0) → Tx_clear_12 f x0 x1 ν = some r → Z g d (0, 0) mX9_clear 333 0 0 12 [(0, .ref x0), (1, .int x1)] [] (zem ν) (zF g (none, zem r)) := by
  intro f
  induction f with
  | zero =>
    intro x0 x1 ν r hq0 h
    cases h
  | succ f ih =>
    intro x0 x1 ν r hq0 h
    rw [Tx_clear_12] at h
    refine z_iload_n dX9_clear_12 1 rfl ?_
    refine z_iconst (M := mX9_clear) (v := 1) dX9_clear_13 rfl ?_
    refine z_icmp_gt 37 dX9_clear_14 rfl (fun hc1 => ?_) (fun hc1 => ?_)
    · replace h := oT hc1 h
      cases h
      exact z_vret dX9_clear_37 rfl
    · replace h := oF hc1 h
      refine z_aload_n dX9_clear_17 0 rfl ?_
      refine y_getR (M := mX9_clear) (r := (x0 + 5)) dX9_clear_18 hq0 flRX9_24 fr_7_6.1 (fr_7_6.2 _) ?_
      refine z_iload_n dX9_clear_21 1 rfl ?_
      refine z_iconst (M := mX9_clear) (v := 0) dX9_clear_22 rfl ?_
      obtain ⟨hi2, h⟩ := oif h
      refine y_iast (M := mX9_clear) (jj := x1.toNatClampNeg) dX9_clear_23 (zko_7_6 hq0) hi2 rfl ?_
      refine z_aload_n dX9_clear_24 0 rfl ?_
      refine y_getR (M := mX9_clear) (r := (x0 + 6)) dX9_clear_25 hq0 flRX9_27 fr_7_7.1 (fr_7_7.2 _) ?_
      refine z_iload_n dX9_clear_28 1 rfl ?_
      refine z_iconst (M := mX9_clear) (v := 0) dX9_clear_29 rfl ?_
      obtain ⟨hi3, h⟩ := oif h
      refine y_iast (M := mX9_clear) (jj := x1.toNatClampNeg) dX9_clear_30 (zko_7_7 hq0) hi3 rfl ?_
      refine z_iinc (M := mX9_clear) (v := (x1 + (1 : Int32))) (lv2 := [(1, .int (x1 + (1 : Int32))), (0, .ref x0)]) dX9_clear_31 1 rfl rfl (Nat.le_of_ble_eq_true rfl) rfl ?_
      refine z_goto 12 dX9_clear_34 rfl ?_
      refine z_lv (lv2 := [(0, .ref x0), (1, .int (x1 + (1 : Int32)))]) [1, 0] rfl ?_
      exact ih x0 (x1 + (1 : Int32)) (si (si ν (x0 + 5) x1.toNatClampNeg (0 : Int32)) (x0 + 6) x1.toNatClampNeg (0 : Int32)) _ hq0 h
def Tx_clear (x0 : Nat) (ν : Nm) : Option Nm :=
  Tx_clear_12 FU x0 (0 : Int32) (si (si ν x0 3 (0 : Int32)) x0 5 (0 : Int32))
set_option maxRecDepth 100000 in
set_option maxHeartbeats 4000000 in
theorem t_Tx_clear {g : GG} {d : Nat} (hd0 : 1 ≤ d) : ∀ (x0 : Nat) (ν : Nm) (r : Nm), zk 333 x0 (7, 0) → Tx_clear x0 ν = some r → Z g d (0, 0) mX9_clear 333 0 0 0 [(0, .ref x0)] [] (zem ν) (zF g (none, zem r)) := by
  intro x0 ν r hq0 h
  unfold Tx_clear at h
  refine z_aload_n dX9_clear_0 0 rfl ?_
  refine z_iconst (M := mX9_clear) (v := 0) dX9_clear_1 rfl ?_
  refine y_putI dX9_clear_2 hq0 flRX9_30 ⟨rfl, rfl⟩ ?_
  refine z_aload_n dX9_clear_5 0 rfl ?_
  refine z_iconst (M := mX9_clear) (v := 0) dX9_clear_6 rfl ?_
  refine y_putI dX9_clear_7 hq0 flRX9_34 ⟨rfl, rfl⟩ ?_
  refine z_iconst (M := mX9_clear) (v := 0) dX9_clear_10 rfl ?_
  refine z_istore_n (M := mX9_clear) (lv2 := [(1, .int (0 : Int32)), (0, .ref x0)]) dX9_clear_11 (Nat.le_of_ble_eq_true rfl) rfl ?_
  refine z_lv (lv2 := [(0, .ref x0), (1, .int (0 : Int32))]) [1, 0] rfl ?_
  exact t_Tx_clear_12 hd0 FU x0 (0 : Int32) (si (si ν x0 3 (0 : Int32)) x0 5 (0 : Int32)) _ hq0 h
theorem ct_Tx_clear {g : GG} {d : Nat} {x0 : Nat} {ν : Nm} {r : Nm} (hd0 : 1 ≤ d) (hq0 : zk 333 x0 (7, 0)) (h : Tx_clear x0 ν = some r) : Ct g d mX9_clear [.ref x0] (zem ν) (none, zem r) := y_entry in_X9_clear (Nat.le_of_ble_eq_true rfl) rfl (t_Tx_clear hd0 x0 ν r hq0 h)
-- FuseMinutes$Text.rules(I)Z
theorem dX9_rules_0 : decode cX9_rules 0 = .ok (.aload_n 0, 1) := by decide +kernel
theorem dX9_rules_1 : decode cX9_rules 1 = .ok (.getfield 24, 3) := by decide +kernel
theorem dX9_rules_4 : decode cX9_rules 4 = .ok (.iload_n 1, 1) := by decide +kernel
theorem dX9_rules_5 : decode cX9_rules 5 = .ok (.iaload, 1) := by decide +kernel
theorem dX9_rules_6 : decode cX9_rules 6 = .ok (.aload_n 0, 1) := by decide +kernel
theorem dX9_rules_7 : decode cX9_rules 7 = .ok (.getfield 27, 3) := by decide +kernel
theorem dX9_rules_10 : decode cX9_rules 10 = .ok (.iload_n 1, 1) := by decide +kernel
theorem dX9_rules_11 : decode cX9_rules 11 = .ok (.iaload, 1) := by decide +kernel
theorem dX9_rules_12 : decode cX9_rules 12 = .ok (.if_icmp .ge 7, 3) := by decide +kernel
theorem dX9_rules_15 : decode cX9_rules 15 = .ok (.iconst 1, 1) := by decide +kernel
theorem dX9_rules_16 : decode cX9_rules 16 = .ok (.goto 4, 3) := by decide +kernel
theorem dX9_rules_19 : decode cX9_rules 19 = .ok (.iconst 0, 1) := by decide +kernel
theorem dX9_rules_20 : decode cX9_rules 20 = .ok (.ireturn, 1) := by decide +kernel
def Tx_rules (ν : Nm) (x0 : Nat) (x1 : Int32) : Option Bool :=
  if inb x1 2 then
  if inb x1 2 then
  (if (gi ν (x0 + 6) x1.toNatClampNeg) ≤ (gi ν (x0 + 5) x1.toNatClampNeg) then
    some false
  else
    some true)
  else none
  else none
set_option maxRecDepth 100000 in
set_option maxHeartbeats 4000000 in
theorem t_Tx_rules {g : GG} {d : Nat} {ν : Nm} (hd0 : 1 ≤ d) : ∀ (x0 : Nat) (x1 : Int32) (r : Bool), zk 333 x0 (7, 0) → Tx_rules ν x0 x1 = some r → Z g d (0, 0) mX9_rules 333 0 0 0 [(0, .ref x0), (1, .int x1)] [] (zem ν) (zF g (some (.int (b2i r)), zem ν)) := by
  intro x0 x1 r hq0 h
  unfold Tx_rules at h
  refine z_aload_n dX9_rules_0 0 rfl ?_
  refine y_getR (M := mX9_rules) (r := (x0 + 5)) dX9_rules_1 hq0 flRX9_24 fr_7_6.1 (fr_7_6.2 _) ?_
  refine z_iload_n dX9_rules_4 1 rfl ?_
  obtain ⟨hi1, h⟩ := oif h
  refine y_iald (M := mX9_rules) (jj := x1.toNatClampNeg) dX9_rules_5 (zko_7_6 hq0) hi1 rfl ?_
  refine z_aload_n dX9_rules_6 0 rfl ?_
  refine y_getR (M := mX9_rules) (r := (x0 + 6)) dX9_rules_7 hq0 flRX9_27 fr_7_7.1 (fr_7_7.2 _) ?_
  refine z_iload_n dX9_rules_10 1 rfl ?_
  obtain ⟨hi2, h⟩ := oif h
  refine y_iald (M := mX9_rules) (jj := x1.toNatClampNeg) dX9_rules_11 (zko_7_7 hq0) hi2 rfl ?_
  refine z_icmp_ge 19 dX9_rules_12 rfl (fun hc3 => ?_) (fun hc3 => ?_)
  · replace h := oT hc3 h
    refine z_iconst (M := mX9_rules) (v := 0) dX9_rules_19 rfl ?_
    cases h
    exact z_zret dX9_rules_20 rfl rfl
  · replace h := oF hc3 h
    refine z_iconst (M := mX9_rules) (v := 1) dX9_rules_15 rfl ?_
    refine z_goto 20 dX9_rules_16 rfl ?_
    cases h
    exact z_zret dX9_rules_20 rfl rfl
theorem ct_Tx_rules {g : GG} {d : Nat} {x0 : Nat} {x1 : Int32} {ν : Nm} {r : Bool} (hd0 : 1 ≤ d) (hq0 : zk 333 x0 (7, 0)) (h : Tx_rules ν x0 x1 = some r) : Ct g d mX9_rules [.ref x0, .int x1] (zem ν) (some (.int (b2i r)), zem ν) := y_entry in_X9_rules (Nat.le_of_ble_eq_true rfl) rfl (t_Tx_rules hd0 x0 x1 r hq0 h)
-- FuseMinutes$Text.addClause(III)V
theorem dX9_addClause_0 : decode cX9_addClause 0 = .ok (.aload_n 0, 1) := by decide +kernel
theorem dX9_addClause_1 : decode cX9_addClause 1 = .ok (.getfield 30, 3) := by decide +kernel
theorem dX9_addClause_4 : decode cX9_addClause 4 = .ok (.bipush 24, 2) := by decide +kernel
theorem dX9_addClause_6 : decode cX9_addClause 6 = .ok (.if_icmp .ge 43, 3) := by decide +kernel
theorem dX9_addClause_9 : decode cX9_addClause 9 = .ok (.aload_n 0, 1) := by decide +kernel
theorem dX9_addClause_10 : decode cX9_addClause 10 = .ok (.getfield 9, 3) := by decide +kernel
theorem dX9_addClause_13 : decode cX9_addClause 13 = .ok (.aload_n 0, 1) := by decide +kernel
theorem dX9_addClause_14 : decode cX9_addClause 14 = .ok (.getfield 30, 3) := by decide +kernel
theorem dX9_addClause_17 : decode cX9_addClause 17 = .ok (.iload_n 1, 1) := by decide +kernel
theorem dX9_addClause_18 : decode cX9_addClause 18 = .ok (.iastore, 1) := by decide +kernel
theorem dX9_addClause_19 : decode cX9_addClause 19 = .ok (.aload_n 0, 1) := by decide +kernel
theorem dX9_addClause_20 : decode cX9_addClause 20 = .ok (.getfield 15, 3) := by decide +kernel
theorem dX9_addClause_23 : decode cX9_addClause 23 = .ok (.aload_n 0, 1) := by decide +kernel
theorem dX9_addClause_24 : decode cX9_addClause 24 = .ok (.getfield 30, 3) := by decide +kernel
theorem dX9_addClause_27 : decode cX9_addClause 27 = .ok (.iload_n 2, 1) := by decide +kernel
theorem dX9_addClause_28 : decode cX9_addClause 28 = .ok (.iastore, 1) := by decide +kernel
theorem dX9_addClause_29 : decode cX9_addClause 29 = .ok (.aload_n 0, 1) := by decide +kernel
theorem dX9_addClause_30 : decode cX9_addClause 30 = .ok (.getfield 18, 3) := by decide +kernel
theorem dX9_addClause_33 : decode cX9_addClause 33 = .ok (.aload_n 0, 1) := by decide +kernel
theorem dX9_addClause_34 : decode cX9_addClause 34 = .ok (.getfield 30, 3) := by decide +kernel
theorem dX9_addClause_37 : decode cX9_addClause 37 = .ok (.iload_n 3, 1) := by decide +kernel
theorem dX9_addClause_38 : decode cX9_addClause 38 = .ok (.iastore, 1) := by decide +kernel
theorem dX9_addClause_39 : decode cX9_addClause 39 = .ok (.aload_n 0, 1) := by decide +kernel
theorem dX9_addClause_40 : decode cX9_addClause 40 = .ok (.dup, 1) := by decide +kernel
theorem dX9_addClause_41 : decode cX9_addClause 41 = .ok (.getfield 30, 3) := by decide +kernel
theorem dX9_addClause_44 : decode cX9_addClause 44 = .ok (.iconst 1, 1) := by decide +kernel
theorem dX9_addClause_45 : decode cX9_addClause 45 = .ok (.iadd, 1) := by decide +kernel
theorem dX9_addClause_46 : decode cX9_addClause 46 = .ok (.putfield 30, 3) := by decide +kernel
theorem dX9_addClause_49 : decode cX9_addClause 49 = .ok (.return_, 1) := by decide +kernel
def Tx_addClause_39 (x0 : Nat) (ν : Nm) : Option Nm :=
  some (si ν x0 3 ((gi ν x0 3) + (1 : Int32)))
set_option maxRecDepth 100000 in
set_option maxHeartbeats 4000000 in
theorem t_Tx_addClause_39 {g : GG} {d : Nat} (hd0 : 1 ≤ d) : ∀ (x0 : Nat) (ν : Nm) (r : Nm), zk 333 x0 (7, 0) → Tx_addClause_39 x0 ν = some r → Z g d (0, 0) mX9_addClause 333 0 0 39 [(0, .ref x0)] [] (zem ν) (zF g (none, zem r)) := by
  intro x0 ν r hq0 h
  unfold Tx_addClause_39 at h
  refine z_aload_n dX9_addClause_39 0 rfl ?_
  refine z_dup dX9_addClause_40 rfl ?_
  refine y_getI dX9_addClause_41 hq0 flRX9_30 ?_
  refine z_iconst (M := mX9_addClause) (v := 1) dX9_addClause_44 rfl ?_
  refine z_iadd dX9_addClause_45 ?_
  refine y_putI dX9_addClause_46 hq0 flRX9_30 ⟨rfl, rfl⟩ ?_
  cases h
  exact z_vret dX9_addClause_49 rfl
def Tx_addClause (x0 : Nat) (x1 : Int32) (x2 : Int32) (x3 : Int32) (ν : Nm) : Option Nm :=
  (if (24 : Int32) ≤ (gi ν x0 3) then
    some ν
  else
    if inb (gi ν x0 3) 24 then
    if inb (gi (si ν (x0 + 1) (gi ν x0 3).toNatClampNeg x1) x0 3) 24 then
    if inb (gi (si (si ν (x0 + 1) (gi ν x0 3).toNatClampNeg x1) (x0 + 2) (gi (si ν (x0 + 1) (gi ν x0 3).toNatClampNeg x1) x0 3).toNatClampNeg x2) x0 3) 24 then
    Tx_addClause_39 x0 (si (si (si ν (x0 + 1) (gi ν x0 3).toNatClampNeg x1) (x0 + 2) (gi (si ν (x0 + 1) (gi ν x0 3).toNatClampNeg x1) x0 3).toNatClampNeg x2) (x0 + 3) (gi (si (si ν (x0 + 1) (gi ν x0 3).toNatClampNeg x1) (x0 + 2) (gi (si ν (x0 + 1) (gi ν x0 3).toNatClampNeg x1) x0 3).toNatClampNeg x2) x0 3).toNatClampNeg x3)
    else none
    else none
    else none)
set_option maxRecDepth 100000 in
set_option maxHeartbeats 4000000 in
theorem t_Tx_addClause {g : GG} {d : Nat} (hd0 : 1 ≤ d) : ∀ (x0 : Nat) (x1 : Int32) (x2 : Int32) (x3 : Int32) (ν : Nm) (r : Nm), zk 333 x0 (7, 0) → Tx_addClause x0 x1 x2 x3 ν = some r → Z g d (0, 0) mX9_addClause 333 0 0 0 [(0, .ref x0), (1, .int x1), (2, .int x2), (3, .int x3)] [] (zem ν) (zF g (none, zem r)) := by
  intro x0 x1 x2 x3 ν r hq0 h
  unfold Tx_addClause at h
  refine z_aload_n dX9_addClause_0 0 rfl ?_
  refine y_getI dX9_addClause_1 hq0 flRX9_30 ?_
  refine z_bipush (M := mX9_addClause) (v := 24) dX9_addClause_4 rfl ?_
  refine z_icmp_ge 49 dX9_addClause_6 rfl (fun hc1 => ?_) (fun hc1 => ?_)
  · replace h := oT hc1 h
    cases h
    exact z_vret dX9_addClause_49 rfl
  · replace h := oF hc1 h
    refine z_aload_n dX9_addClause_9 0 rfl ?_
    refine y_getR (M := mX9_addClause) (r := (x0 + 1)) dX9_addClause_10 hq0 flRX9_9 fr_7_0.1 (fr_7_0.2 _) ?_
    refine z_aload_n dX9_addClause_13 0 rfl ?_
    refine y_getI dX9_addClause_14 hq0 flRX9_30 ?_
    refine z_iload_n dX9_addClause_17 1 rfl ?_
    obtain ⟨hi2, h⟩ := oif h
    refine y_iast (M := mX9_addClause) (jj := (gi ν x0 3).toNatClampNeg) dX9_addClause_18 (zko_7_0 hq0) hi2 rfl ?_
    refine z_aload_n dX9_addClause_19 0 rfl ?_
    refine y_getR (M := mX9_addClause) (r := (x0 + 2)) dX9_addClause_20 hq0 flRX9_15 fr_7_1.1 (fr_7_1.2 _) ?_
    refine z_aload_n dX9_addClause_23 0 rfl ?_
    refine y_getI dX9_addClause_24 hq0 flRX9_30 ?_
    refine z_iload_n dX9_addClause_27 2 rfl ?_
    obtain ⟨hi3, h⟩ := oif h
    refine y_iast (M := mX9_addClause) (jj := (gi (si ν (x0 + 1) (gi ν x0 3).toNatClampNeg x1) x0 3).toNatClampNeg) dX9_addClause_28 (zko_7_1 hq0) hi3 rfl ?_
    refine z_aload_n dX9_addClause_29 0 rfl ?_
    refine y_getR (M := mX9_addClause) (r := (x0 + 3)) dX9_addClause_30 hq0 flRX9_18 fr_7_2.1 (fr_7_2.2 _) ?_
    refine z_aload_n dX9_addClause_33 0 rfl ?_
    refine y_getI dX9_addClause_34 hq0 flRX9_30 ?_
    refine z_iload_n dX9_addClause_37 3 rfl ?_
    obtain ⟨hi4, h⟩ := oif h
    refine y_iast (M := mX9_addClause) (jj := (gi (si (si ν (x0 + 1) (gi ν x0 3).toNatClampNeg x1) (x0 + 2) (gi (si ν (x0 + 1) (gi ν x0 3).toNatClampNeg x1) x0 3).toNatClampNeg x2) x0 3).toNatClampNeg) dX9_addClause_38 (zko_7_2 hq0) hi4 rfl ?_
    refine z_lv (lv2 := [(0, .ref x0)]) [0] rfl ?_
    exact t_Tx_addClause_39 hd0  x0 (si (si (si ν (x0 + 1) (gi ν x0 3).toNatClampNeg x1) (x0 + 2) (gi (si ν (x0 + 1) (gi ν x0 3).toNatClampNeg x1) x0 3).toNatClampNeg x2) (x0 + 3) (gi (si (si ν (x0 + 1) (gi ν x0 3).toNatClampNeg x1) (x0 + 2) (gi (si ν (x0 + 1) (gi ν x0 3).toNatClampNeg x1) x0 3).toNatClampNeg x2) x0 3).toNatClampNeg x3) _ hq0 h
theorem ct_Tx_addClause {g : GG} {d : Nat} {x0 : Nat} {x1 : Int32} {x2 : Int32} {x3 : Int32} {ν : Nm} {r : Nm} (hd0 : 1 ≤ d) (hq0 : zk 333 x0 (7, 0)) (h : Tx_addClause x0 x1 x2 x3 ν = some r) : Ct g d mX9_addClause [.ref x0, .int x1, .int x2, .int x3] (zem ν) (none, zem r) := y_entry in_X9_addClause (Nat.le_of_ble_eq_true rfl) rfl (t_Tx_addClause hd0 x0 x1 x2 x3 ν r hq0 h)
-- FuseMinutes$Text.addCode(I)V
theorem dX9_addCode_0 : decode cX9_addCode 0 = .ok (.aload_n 0, 1) := by decide +kernel
theorem dX9_addCode_1 : decode cX9_addCode 1 = .ok (.getfield 34, 3) := by decide +kernel
theorem dX9_addCode_4 : decode cX9_addCode 4 = .ok (.sipush 300, 3) := by decide +kernel
theorem dX9_addCode_7 : decode cX9_addCode 7 = .ok (.if_icmp .ge 23, 3) := by decide +kernel
theorem dX9_addCode_10 : decode cX9_addCode 10 = .ok (.aload_n 0, 1) := by decide +kernel
theorem dX9_addCode_11 : decode cX9_addCode 11 = .ok (.getfield 21, 3) := by decide +kernel
theorem dX9_addCode_14 : decode cX9_addCode 14 = .ok (.aload_n 0, 1) := by decide +kernel
theorem dX9_addCode_15 : decode cX9_addCode 15 = .ok (.getfield 34, 3) := by decide +kernel
theorem dX9_addCode_18 : decode cX9_addCode 18 = .ok (.iload_n 1, 1) := by decide +kernel
theorem dX9_addCode_19 : decode cX9_addCode 19 = .ok (.iastore, 1) := by decide +kernel
theorem dX9_addCode_20 : decode cX9_addCode 20 = .ok (.aload_n 0, 1) := by decide +kernel
theorem dX9_addCode_21 : decode cX9_addCode 21 = .ok (.dup, 1) := by decide +kernel
theorem dX9_addCode_22 : decode cX9_addCode 22 = .ok (.getfield 34, 3) := by decide +kernel
theorem dX9_addCode_25 : decode cX9_addCode 25 = .ok (.iconst 1, 1) := by decide +kernel
theorem dX9_addCode_26 : decode cX9_addCode 26 = .ok (.iadd, 1) := by decide +kernel
theorem dX9_addCode_27 : decode cX9_addCode 27 = .ok (.putfield 34, 3) := by decide +kernel
theorem dX9_addCode_30 : decode cX9_addCode 30 = .ok (.return_, 1) := by decide +kernel
def Tx_addCode (x0 : Nat) (x1 : Int32) (ν : Nm) : Option Nm :=
  (if (300 : Int32) ≤ (gi ν x0 5) then
    some ν
  else
    if inb (gi ν x0 5) 300 then
    some (si (si ν (x0 + 4) (gi ν x0 5).toNatClampNeg x1) x0 5 ((gi (si ν (x0 + 4) (gi ν x0 5).toNatClampNeg x1) x0 5) + (1 : Int32)))
    else none)
set_option maxRecDepth 100000 in
set_option maxHeartbeats 4000000 in
theorem t_Tx_addCode {g : GG} {d : Nat} (hd0 : 1 ≤ d) : ∀ (x0 : Nat) (x1 : Int32) (ν : Nm) (r : Nm), zk 333 x0 (7, 0) → Tx_addCode x0 x1 ν = some r → Z g d (0, 0) mX9_addCode 333 0 0 0 [(0, .ref x0), (1, .int x1)] [] (zem ν) (zF g (none, zem r)) := by
  intro x0 x1 ν r hq0 h
  unfold Tx_addCode at h
  refine z_aload_n dX9_addCode_0 0 rfl ?_
  refine y_getI dX9_addCode_1 hq0 flRX9_34 ?_
  refine z_sipush (M := mX9_addCode) (v := 300) dX9_addCode_4 rfl ?_
  refine z_icmp_ge 30 dX9_addCode_7 rfl (fun hc1 => ?_) (fun hc1 => ?_)
  · replace h := oT hc1 h
    cases h
    exact z_vret dX9_addCode_30 rfl
  · replace h := oF hc1 h
    refine z_aload_n dX9_addCode_10 0 rfl ?_
    refine y_getR (M := mX9_addCode) (r := (x0 + 4)) dX9_addCode_11 hq0 flRX9_21 fr_7_4.1 (fr_7_4.2 _) ?_
    refine z_aload_n dX9_addCode_14 0 rfl ?_
    refine y_getI dX9_addCode_15 hq0 flRX9_34 ?_
    refine z_iload_n dX9_addCode_18 1 rfl ?_
    obtain ⟨hi2, h⟩ := oif h
    refine y_iast (M := mX9_addCode) (jj := (gi ν x0 5).toNatClampNeg) dX9_addCode_19 (zko_7_4 hq0) hi2 rfl ?_
    refine z_aload_n dX9_addCode_20 0 rfl ?_
    refine z_dup dX9_addCode_21 rfl ?_
    refine y_getI dX9_addCode_22 hq0 flRX9_34 ?_
    refine z_iconst (M := mX9_addCode) (v := 1) dX9_addCode_25 rfl ?_
    refine z_iadd dX9_addCode_26 ?_
    refine y_putI dX9_addCode_27 hq0 flRX9_34 ⟨rfl, rfl⟩ ?_
    cases h
    exact z_vret dX9_addCode_30 rfl
theorem ct_Tx_addCode {g : GG} {d : Nat} {x0 : Nat} {x1 : Int32} {ν : Nm} {r : Nm} (hd0 : 1 ≤ d) (hq0 : zk 333 x0 (7, 0)) (h : Tx_addCode x0 x1 ν = some r) : Ct g d mX9_addCode [.ref x0, .int x1] (zem ν) (none, zem r) := y_entry in_X9_addCode (Nat.le_of_ble_eq_true rfl) rfl (t_Tx_addCode hd0 x0 x1 ν r hq0 h)
-- FuseMinutes$Told.add(I)Z
theorem dX10_add_0 : decode cX10_add 0 = .ok (.aload_n 0, 1) := by decide +kernel
theorem dX10_add_1 : decode cX10_add 1 = .ok (.getfield 13, 3) := by decide +kernel
theorem dX10_add_4 : decode cX10_add 4 = .ok (.aload_n 0, 1) := by decide +kernel
theorem dX10_add_5 : decode cX10_add 5 = .ok (.getfield 7, 3) := by decide +kernel
theorem dX10_add_8 : decode cX10_add 8 = .ok (.arraylength, 1) := by decide +kernel
theorem dX10_add_9 : decode cX10_add 9 = .ok (.if_icmp .lt 5, 3) := by decide +kernel
theorem dX10_add_12 : decode cX10_add 12 = .ok (.iconst 0, 1) := by decide +kernel
theorem dX10_add_13 : decode cX10_add 13 = .ok (.ireturn, 1) := by decide +kernel
theorem dX10_add_14 : decode cX10_add 14 = .ok (.aload_n 0, 1) := by decide +kernel
theorem dX10_add_15 : decode cX10_add 15 = .ok (.getfield 7, 3) := by decide +kernel
theorem dX10_add_18 : decode cX10_add 18 = .ok (.aload_n 0, 1) := by decide +kernel
theorem dX10_add_19 : decode cX10_add 19 = .ok (.getfield 13, 3) := by decide +kernel
theorem dX10_add_22 : decode cX10_add 22 = .ok (.iload_n 1, 1) := by decide +kernel
theorem dX10_add_23 : decode cX10_add 23 = .ok (.iastore, 1) := by decide +kernel
theorem dX10_add_24 : decode cX10_add 24 = .ok (.aload_n 0, 1) := by decide +kernel
theorem dX10_add_25 : decode cX10_add 25 = .ok (.dup, 1) := by decide +kernel
theorem dX10_add_26 : decode cX10_add 26 = .ok (.getfield 13, 3) := by decide +kernel
theorem dX10_add_29 : decode cX10_add 29 = .ok (.iconst 1, 1) := by decide +kernel
theorem dX10_add_30 : decode cX10_add 30 = .ok (.iadd, 1) := by decide +kernel
theorem dX10_add_31 : decode cX10_add 31 = .ok (.putfield 13, 3) := by decide +kernel
theorem dX10_add_34 : decode cX10_add 34 = .ok (.iconst 1, 1) := by decide +kernel
theorem dX10_add_35 : decode cX10_add 35 = .ok (.ireturn, 1) := by decide +kernel
def To_add (x0 : Nat) (x1 : Int32) (ν : Nm) : Option (Bool × Nm) :=
  (if (gi ν x0 1) < (Int32.ofNat (tl x0)) then
    if inb (gi ν x0 1) (tl x0) then
    some (true, (si (si ν (x0 + 1) (gi ν x0 1).toNatClampNeg x1) x0 1 ((gi (si ν (x0 + 1) (gi ν x0 1).toNatClampNeg x1) x0 1) + (1 : Int32))))
    else none
  else
    some (false, ν))
set_option maxRecDepth 100000 in
set_option maxHeartbeats 4000000 in
theorem t_To_add {g : GG} {d : Nat} (hd0 : 1 ≤ d) : ∀ (x0 : Nat) (x1 : Int32) (ν : Nm) (r : (Bool × Nm)), zk 333 x0 (8, 0) → To_add x0 x1 ν = some r → Z g d (0, 0) mX10_add 333 0 0 0 [(0, .ref x0), (1, .int x1)] [] (zem ν) (zF g (some (.int (b2i r.1)), zem r.2)) := by
  intro x0 x1 ν r hq0 h
  unfold To_add at h
  refine z_aload_n dX10_add_0 0 rfl ?_
  refine y_getI dX10_add_1 hq0 flRX10_13 ?_
  refine z_aload_n dX10_add_4 0 rfl ?_
  refine y_getR (M := mX10_add) (r := (x0 + 1)) dX10_add_5 hq0 flRX10_7 fr_8_0.1 (fr_8_0.2 _) ?_
  refine z_alen (M := mX10_add) (v := (Int32.ofNat (tl x0))) dX10_add_8 (zko_8_0 hq0) rfl ?_
  refine z_icmp_lt 14 dX10_add_9 rfl (fun hc1 => ?_) (fun hc1 => ?_)
  · replace h := oT hc1 h
    refine z_aload_n dX10_add_14 0 rfl ?_
    refine y_getR (M := mX10_add) (r := (x0 + 1)) dX10_add_15 hq0 flRX10_7 fr_8_0.1 (fr_8_0.2 _) ?_
    refine z_aload_n dX10_add_18 0 rfl ?_
    refine y_getI dX10_add_19 hq0 flRX10_13 ?_
    refine z_iload_n dX10_add_22 1 rfl ?_
    obtain ⟨hi2, h⟩ := oif h
    refine y_iast (M := mX10_add) (jj := (gi ν x0 1).toNatClampNeg) dX10_add_23 (zko_8_0 hq0) hi2 rfl ?_
    refine z_aload_n dX10_add_24 0 rfl ?_
    refine z_dup dX10_add_25 rfl ?_
    refine y_getI dX10_add_26 hq0 flRX10_13 ?_
    refine z_iconst (M := mX10_add) (v := 1) dX10_add_29 rfl ?_
    refine z_iadd dX10_add_30 ?_
    refine y_putI dX10_add_31 hq0 flRX10_13 ⟨rfl, rfl⟩ ?_
    refine z_iconst (M := mX10_add) (v := 1) dX10_add_34 rfl ?_
    cases h
    exact z_zret dX10_add_35 rfl rfl
  · replace h := oF hc1 h
    refine z_iconst (M := mX10_add) (v := 0) dX10_add_12 rfl ?_
    cases h
    exact z_zret dX10_add_13 rfl rfl
theorem ct_To_add {g : GG} {d : Nat} {x0 : Nat} {x1 : Int32} {ν : Nm} {r : (Bool × Nm)} (hd0 : 1 ≤ d) (hq0 : zk 333 x0 (8, 0)) (h : To_add x0 x1 ν = some r) : Ct g d mX10_add [.ref x0, .int x1] (zem ν) (some (.int (b2i r.1)), zem r.2) := y_entry in_X10_add (Nat.le_of_ble_eq_true rfl) rfl (t_To_add hd0 x0 x1 ν r hq0 h)
-- java/lang/Long.bitCount(J)I
theorem dJ13_bitCount_95d88_0 : decode cJ13_bitCount_95d88 0 = .ok (.lload_n 0, 1) := by decide +kernel
theorem dJ13_bitCount_95d88_1 : decode cJ13_bitCount_95d88 1 = .ok (.lload_n 0, 1) := by decide +kernel
theorem dJ13_bitCount_95d88_2 : decode cJ13_bitCount_95d88 2 = .ok (.iconst 1, 1) := by decide +kernel
theorem dJ13_bitCount_95d88_3 : decode cJ13_bitCount_95d88 3 = .ok (.lushr, 1) := by decide +kernel
theorem dJ13_bitCount_95d88_4 : decode cJ13_bitCount_95d88 4 = .ok (.ldc2_w 314, 3) := by decide +kernel
theorem dJ13_bitCount_95d88_7 : decode cJ13_bitCount_95d88 7 = .ok (.land, 1) := by decide +kernel
theorem dJ13_bitCount_95d88_8 : decode cJ13_bitCount_95d88 8 = .ok (.lsub, 1) := by decide +kernel
theorem dJ13_bitCount_95d88_9 : decode cJ13_bitCount_95d88 9 = .ok (.lstore_n 0, 1) := by decide +kernel
theorem dJ13_bitCount_95d88_10 : decode cJ13_bitCount_95d88 10 = .ok (.lload_n 0, 1) := by decide +kernel
theorem dJ13_bitCount_95d88_11 : decode cJ13_bitCount_95d88 11 = .ok (.ldc2_w 316, 3) := by decide +kernel
theorem dJ13_bitCount_95d88_14 : decode cJ13_bitCount_95d88 14 = .ok (.land, 1) := by decide +kernel
theorem dJ13_bitCount_95d88_15 : decode cJ13_bitCount_95d88 15 = .ok (.lload_n 0, 1) := by decide +kernel
theorem dJ13_bitCount_95d88_16 : decode cJ13_bitCount_95d88 16 = .ok (.iconst 2, 1) := by decide +kernel
theorem dJ13_bitCount_95d88_17 : decode cJ13_bitCount_95d88 17 = .ok (.lushr, 1) := by decide +kernel
theorem dJ13_bitCount_95d88_18 : decode cJ13_bitCount_95d88 18 = .ok (.ldc2_w 316, 3) := by decide +kernel
theorem dJ13_bitCount_95d88_21 : decode cJ13_bitCount_95d88 21 = .ok (.land, 1) := by decide +kernel
theorem dJ13_bitCount_95d88_22 : decode cJ13_bitCount_95d88 22 = .ok (.ladd, 1) := by decide +kernel
theorem dJ13_bitCount_95d88_23 : decode cJ13_bitCount_95d88 23 = .ok (.lstore_n 0, 1) := by decide +kernel
theorem dJ13_bitCount_95d88_24 : decode cJ13_bitCount_95d88 24 = .ok (.lload_n 0, 1) := by decide +kernel
theorem dJ13_bitCount_95d88_25 : decode cJ13_bitCount_95d88 25 = .ok (.lload_n 0, 1) := by decide +kernel
theorem dJ13_bitCount_95d88_26 : decode cJ13_bitCount_95d88 26 = .ok (.iconst 4, 1) := by decide +kernel
theorem dJ13_bitCount_95d88_27 : decode cJ13_bitCount_95d88 27 = .ok (.lushr, 1) := by decide +kernel
theorem dJ13_bitCount_95d88_28 : decode cJ13_bitCount_95d88 28 = .ok (.ladd, 1) := by decide +kernel
theorem dJ13_bitCount_95d88_29 : decode cJ13_bitCount_95d88 29 = .ok (.ldc2_w 318, 3) := by decide +kernel
theorem dJ13_bitCount_95d88_32 : decode cJ13_bitCount_95d88 32 = .ok (.land, 1) := by decide +kernel
theorem dJ13_bitCount_95d88_33 : decode cJ13_bitCount_95d88 33 = .ok (.lstore_n 0, 1) := by decide +kernel
theorem dJ13_bitCount_95d88_34 : decode cJ13_bitCount_95d88 34 = .ok (.lload_n 0, 1) := by decide +kernel
theorem dJ13_bitCount_95d88_35 : decode cJ13_bitCount_95d88 35 = .ok (.lload_n 0, 1) := by decide +kernel
theorem dJ13_bitCount_95d88_36 : decode cJ13_bitCount_95d88 36 = .ok (.bipush 8, 2) := by decide +kernel
theorem dJ13_bitCount_95d88_38 : decode cJ13_bitCount_95d88 38 = .ok (.lushr, 1) := by decide +kernel
theorem dJ13_bitCount_95d88_39 : decode cJ13_bitCount_95d88 39 = .ok (.ladd, 1) := by decide +kernel
theorem dJ13_bitCount_95d88_40 : decode cJ13_bitCount_95d88 40 = .ok (.lstore_n 0, 1) := by decide +kernel
theorem dJ13_bitCount_95d88_41 : decode cJ13_bitCount_95d88 41 = .ok (.lload_n 0, 1) := by decide +kernel
theorem dJ13_bitCount_95d88_42 : decode cJ13_bitCount_95d88 42 = .ok (.lload_n 0, 1) := by decide +kernel
theorem dJ13_bitCount_95d88_43 : decode cJ13_bitCount_95d88 43 = .ok (.bipush 16, 2) := by decide +kernel
theorem dJ13_bitCount_95d88_45 : decode cJ13_bitCount_95d88 45 = .ok (.lushr, 1) := by decide +kernel
theorem dJ13_bitCount_95d88_46 : decode cJ13_bitCount_95d88 46 = .ok (.ladd, 1) := by decide +kernel
theorem dJ13_bitCount_95d88_47 : decode cJ13_bitCount_95d88 47 = .ok (.lstore_n 0, 1) := by decide +kernel
theorem dJ13_bitCount_95d88_48 : decode cJ13_bitCount_95d88 48 = .ok (.lload_n 0, 1) := by decide +kernel
theorem dJ13_bitCount_95d88_49 : decode cJ13_bitCount_95d88 49 = .ok (.lload_n 0, 1) := by decide +kernel
theorem dJ13_bitCount_95d88_50 : decode cJ13_bitCount_95d88 50 = .ok (.bipush 32, 2) := by decide +kernel
theorem dJ13_bitCount_95d88_52 : decode cJ13_bitCount_95d88 52 = .ok (.lushr, 1) := by decide +kernel
theorem dJ13_bitCount_95d88_53 : decode cJ13_bitCount_95d88 53 = .ok (.ladd, 1) := by decide +kernel
theorem dJ13_bitCount_95d88_54 : decode cJ13_bitCount_95d88 54 = .ok (.lstore_n 0, 1) := by decide +kernel
theorem dJ13_bitCount_95d88_55 : decode cJ13_bitCount_95d88 55 = .ok (.lload_n 0, 1) := by decide +kernel
theorem dJ13_bitCount_95d88_56 : decode cJ13_bitCount_95d88 56 = .ok (.l2i, 1) := by decide +kernel
theorem dJ13_bitCount_95d88_57 : decode cJ13_bitCount_95d88 57 = .ok (.bipush 127, 2) := by decide +kernel
theorem dJ13_bitCount_95d88_59 : decode cJ13_bitCount_95d88 59 = .ok (.iand, 1) := by decide +kernel
theorem dJ13_bitCount_95d88_60 : decode cJ13_bitCount_95d88 60 = .ok (.ireturn, 1) := by decide +kernel
def Lo_bitCountJ_55 (x0 : Int64) : Option Int32 :=
  some (x0.toInt32 &&& (127 : Int32))
set_option maxRecDepth 100000 in
set_option maxHeartbeats 4000000 in
theorem t_Lo_bitCountJ_55 {g : GG} {d : Nat} {μ : Mm} (hd0 : 1 ≤ d) : ∀ (x0 : Int64) (r : Int32), Lo_bitCountJ_55 x0 = some r → Z g d (0, 0) mJ13_bitCount_95d88 333 0 0 55 [(0, .long x0)] [] μ (zF g (some (.int r), μ)) := by
  intro x0 r h
  unfold Lo_bitCountJ_55 at h
  refine z_lload_n dJ13_bitCount_95d88_55 0 rfl ?_
  refine z_l2i dJ13_bitCount_95d88_56 ?_
  refine z_bipush (M := mJ13_bitCount_95d88) (v := 127) dJ13_bitCount_95d88_57 rfl ?_
  refine z_iand dJ13_bitCount_95d88_59 ?_
  cases h
  exact z_iret dJ13_bitCount_95d88_60 rfl
def Lo_bitCountJ_41 (x0 : Int64) : Option Int32 :=
  Lo_bitCountJ_55 ((x0 + (x0.toUInt64 >>> ((16 : Int32).toInt64.toUInt64 &&& Int64.toUInt64 63)).toInt64) + ((x0 + (x0.toUInt64 >>> ((16 : Int32).toInt64.toUInt64 &&& Int64.toUInt64 63)).toInt64).toUInt64 >>> ((32 : Int32).toInt64.toUInt64 &&& Int64.toUInt64 63)).toInt64)
set_option maxRecDepth 100000 in
set_option maxHeartbeats 4000000 in
theorem t_Lo_bitCountJ_41 {g : GG} {d : Nat} {μ : Mm} (hd0 : 1 ≤ d) : ∀ (x0 : Int64) (r : Int32), Lo_bitCountJ_41 x0 = some r → Z g d (0, 0) mJ13_bitCount_95d88 333 0 0 41 [(0, .long x0)] [] μ (zF g (some (.int r), μ)) := by
  intro x0 r h
  unfold Lo_bitCountJ_41 at h
  refine z_lload_n dJ13_bitCount_95d88_41 0 rfl ?_
  refine z_lload_n dJ13_bitCount_95d88_42 0 rfl ?_
  refine z_bipush (M := mJ13_bitCount_95d88) (v := 16) dJ13_bitCount_95d88_43 rfl ?_
  refine z_lushr dJ13_bitCount_95d88_45 ?_
  refine z_ladd dJ13_bitCount_95d88_46 ?_
  refine z_lstore_n (M := mJ13_bitCount_95d88) (lv2 := [(0, .long (x0 + (x0.toUInt64 >>> ((16 : Int32).toInt64.toUInt64 &&& Int64.toUInt64 63)).toInt64))]) dJ13_bitCount_95d88_47 (Nat.le_of_ble_eq_true rfl) rfl ?_
  refine z_lload_n dJ13_bitCount_95d88_48 0 rfl ?_
  refine z_lload_n dJ13_bitCount_95d88_49 0 rfl ?_
  refine z_bipush (M := mJ13_bitCount_95d88) (v := 32) dJ13_bitCount_95d88_50 rfl ?_
  refine z_lushr dJ13_bitCount_95d88_52 ?_
  refine z_ladd dJ13_bitCount_95d88_53 ?_
  refine z_lstore_n (M := mJ13_bitCount_95d88) (lv2 := [(0, .long ((x0 + (x0.toUInt64 >>> ((16 : Int32).toInt64.toUInt64 &&& Int64.toUInt64 63)).toInt64) + ((x0 + (x0.toUInt64 >>> ((16 : Int32).toInt64.toUInt64 &&& Int64.toUInt64 63)).toInt64).toUInt64 >>> ((32 : Int32).toInt64.toUInt64 &&& Int64.toUInt64 63)).toInt64))]) dJ13_bitCount_95d88_54 (Nat.le_of_ble_eq_true rfl) rfl ?_
  exact t_Lo_bitCountJ_55 hd0  ((x0 + (x0.toUInt64 >>> ((16 : Int32).toInt64.toUInt64 &&& Int64.toUInt64 63)).toInt64) + ((x0 + (x0.toUInt64 >>> ((16 : Int32).toInt64.toUInt64 &&& Int64.toUInt64 63)).toInt64).toUInt64 >>> ((32 : Int32).toInt64.toUInt64 &&& Int64.toUInt64 63)).toInt64) _ h
def Lo_bitCountJ_24 (x0 : Int64) : Option Int32 :=
  Lo_bitCountJ_41 (((x0 + (x0.toUInt64 >>> ((4 : Int32).toInt64.toUInt64 &&& Int64.toUInt64 63)).toInt64) &&& (1085102592571150095 : Int64)) + (((x0 + (x0.toUInt64 >>> ((4 : Int32).toInt64.toUInt64 &&& Int64.toUInt64 63)).toInt64) &&& (1085102592571150095 : Int64)).toUInt64 >>> ((8 : Int32).toInt64.toUInt64 &&& Int64.toUInt64 63)).toInt64)
set_option maxRecDepth 100000 in
set_option maxHeartbeats 4000000 in
theorem t_Lo_bitCountJ_24 {g : GG} {d : Nat} {μ : Mm} (hd0 : 1 ≤ d) : ∀ (x0 : Int64) (r : Int32), Lo_bitCountJ_24 x0 = some r → Z g d (0, 0) mJ13_bitCount_95d88 333 0 0 24 [(0, .long x0)] [] μ (zF g (some (.int r), μ)) := by
  intro x0 r h
  unfold Lo_bitCountJ_24 at h
  refine z_lload_n dJ13_bitCount_95d88_24 0 rfl ?_
  refine z_lload_n dJ13_bitCount_95d88_25 0 rfl ?_
  refine z_iconst (M := mJ13_bitCount_95d88) (v := 4) dJ13_bitCount_95d88_26 rfl ?_
  refine z_lushr dJ13_bitCount_95d88_27 ?_
  refine z_ladd dJ13_bitCount_95d88_28 ?_
  refine z_ldc2 dJ13_bitCount_95d88_29 csRJ13_318 ?_
  refine z_land dJ13_bitCount_95d88_32 ?_
  refine z_lstore_n (M := mJ13_bitCount_95d88) (lv2 := [(0, .long ((x0 + (x0.toUInt64 >>> ((4 : Int32).toInt64.toUInt64 &&& Int64.toUInt64 63)).toInt64) &&& (1085102592571150095 : Int64)))]) dJ13_bitCount_95d88_33 (Nat.le_of_ble_eq_true rfl) rfl ?_
  refine z_lload_n dJ13_bitCount_95d88_34 0 rfl ?_
  refine z_lload_n dJ13_bitCount_95d88_35 0 rfl ?_
  refine z_bipush (M := mJ13_bitCount_95d88) (v := 8) dJ13_bitCount_95d88_36 rfl ?_
  refine z_lushr dJ13_bitCount_95d88_38 ?_
  refine z_ladd dJ13_bitCount_95d88_39 ?_
  refine z_lstore_n (M := mJ13_bitCount_95d88) (lv2 := [(0, .long (((x0 + (x0.toUInt64 >>> ((4 : Int32).toInt64.toUInt64 &&& Int64.toUInt64 63)).toInt64) &&& (1085102592571150095 : Int64)) + (((x0 + (x0.toUInt64 >>> ((4 : Int32).toInt64.toUInt64 &&& Int64.toUInt64 63)).toInt64) &&& (1085102592571150095 : Int64)).toUInt64 >>> ((8 : Int32).toInt64.toUInt64 &&& Int64.toUInt64 63)).toInt64))]) dJ13_bitCount_95d88_40 (Nat.le_of_ble_eq_true rfl) rfl ?_
  exact t_Lo_bitCountJ_41 hd0  (((x0 + (x0.toUInt64 >>> ((4 : Int32).toInt64.toUInt64 &&& Int64.toUInt64 63)).toInt64) &&& (1085102592571150095 : Int64)) + (((x0 + (x0.toUInt64 >>> ((4 : Int32).toInt64.toUInt64 &&& Int64.toUInt64 63)).toInt64) &&& (1085102592571150095 : Int64)).toUInt64 >>> ((8 : Int32).toInt64.toUInt64 &&& Int64.toUInt64 63)).toInt64) _ h
def Lo_bitCountJ (x0 : Int64) : Option Int32 :=
  Lo_bitCountJ_24 (((x0 - ((x0.toUInt64 >>> ((1 : Int32).toInt64.toUInt64 &&& Int64.toUInt64 63)).toInt64 &&& (6148914691236517205 : Int64))) &&& (3689348814741910323 : Int64)) + (((x0 - ((x0.toUInt64 >>> ((1 : Int32).toInt64.toUInt64 &&& Int64.toUInt64 63)).toInt64 &&& (6148914691236517205 : Int64))).toUInt64 >>> ((2 : Int32).toInt64.toUInt64 &&& Int64.toUInt64 63)).toInt64 &&& (3689348814741910323 : Int64)))
set_option maxRecDepth 100000 in
set_option maxHeartbeats 4000000 in
theorem t_Lo_bitCountJ {g : GG} {d : Nat} {μ : Mm} (hd0 : 1 ≤ d) : ∀ (x0 : Int64) (r : Int32), Lo_bitCountJ x0 = some r → Z g d (0, 0) mJ13_bitCount_95d88 333 0 0 0 [(0, .long x0)] [] μ (zF g (some (.int r), μ)) := by
  intro x0 r h
  unfold Lo_bitCountJ at h
  refine z_lload_n dJ13_bitCount_95d88_0 0 rfl ?_
  refine z_lload_n dJ13_bitCount_95d88_1 0 rfl ?_
  refine z_iconst (M := mJ13_bitCount_95d88) (v := 1) dJ13_bitCount_95d88_2 rfl ?_
  refine z_lushr dJ13_bitCount_95d88_3 ?_
  refine z_ldc2 dJ13_bitCount_95d88_4 csRJ13_314 ?_
  refine z_land dJ13_bitCount_95d88_7 ?_
  refine z_lsub dJ13_bitCount_95d88_8 ?_
  refine z_lstore_n (M := mJ13_bitCount_95d88) (lv2 := [(0, .long (x0 - ((x0.toUInt64 >>> ((1 : Int32).toInt64.toUInt64 &&& Int64.toUInt64 63)).toInt64 &&& (6148914691236517205 : Int64))))]) dJ13_bitCount_95d88_9 (Nat.le_of_ble_eq_true rfl) rfl ?_
  refine z_lload_n dJ13_bitCount_95d88_10 0 rfl ?_
  refine z_ldc2 dJ13_bitCount_95d88_11 csRJ13_316 ?_
  refine z_land dJ13_bitCount_95d88_14 ?_
  refine z_lload_n dJ13_bitCount_95d88_15 0 rfl ?_
  refine z_iconst (M := mJ13_bitCount_95d88) (v := 2) dJ13_bitCount_95d88_16 rfl ?_
  refine z_lushr dJ13_bitCount_95d88_17 ?_
  refine z_ldc2 dJ13_bitCount_95d88_18 csRJ13_316 ?_
  refine z_land dJ13_bitCount_95d88_21 ?_
  refine z_ladd dJ13_bitCount_95d88_22 ?_
  refine z_lstore_n (M := mJ13_bitCount_95d88) (lv2 := [(0, .long (((x0 - ((x0.toUInt64 >>> ((1 : Int32).toInt64.toUInt64 &&& Int64.toUInt64 63)).toInt64 &&& (6148914691236517205 : Int64))) &&& (3689348814741910323 : Int64)) + (((x0 - ((x0.toUInt64 >>> ((1 : Int32).toInt64.toUInt64 &&& Int64.toUInt64 63)).toInt64 &&& (6148914691236517205 : Int64))).toUInt64 >>> ((2 : Int32).toInt64.toUInt64 &&& Int64.toUInt64 63)).toInt64 &&& (3689348814741910323 : Int64))))]) dJ13_bitCount_95d88_23 (Nat.le_of_ble_eq_true rfl) rfl ?_
  exact t_Lo_bitCountJ_24 hd0  (((x0 - ((x0.toUInt64 >>> ((1 : Int32).toInt64.toUInt64 &&& Int64.toUInt64 63)).toInt64 &&& (6148914691236517205 : Int64))) &&& (3689348814741910323 : Int64)) + (((x0 - ((x0.toUInt64 >>> ((1 : Int32).toInt64.toUInt64 &&& Int64.toUInt64 63)).toInt64 &&& (6148914691236517205 : Int64))).toUInt64 >>> ((2 : Int32).toInt64.toUInt64 &&& Int64.toUInt64 63)).toInt64 &&& (3689348814741910323 : Int64))) _ h
theorem ct_Lo_bitCountJ {g : GG} {d : Nat} {x0 : Int64} {μ : Mm} {r : Int32} (hd0 : 1 ≤ d)  (h : Lo_bitCountJ x0 = some r) : Ct g d mJ13_bitCount_95d88 [.long x0] μ (some (.int r), μ) := y_entry in_J13_bitCount_95d88 (Nat.le_of_ble_eq_true rfl) rfl (t_Lo_bitCountJ hd0 x0 r h)
-- FuseMinutes.within(III)Z
theorem dX11_within_0 : decode cX11_within 0 = .ok (.iload_n 0, 1) := by decide +kernel
theorem dX11_within_1 : decode cX11_within 1 = .ok (.iload_n 1, 1) := by decide +kernel
theorem dX11_within_2 : decode cX11_within 2 = .ok (.if_icmp .lt 12, 3) := by decide +kernel
theorem dX11_within_5 : decode cX11_within 5 = .ok (.iload_n 0, 1) := by decide +kernel
theorem dX11_within_6 : decode cX11_within 6 = .ok (.iload_n 2, 1) := by decide +kernel
theorem dX11_within_7 : decode cX11_within 7 = .ok (.if_icmp .gt 7, 3) := by decide +kernel
theorem dX11_within_10 : decode cX11_within 10 = .ok (.iconst 1, 1) := by decide +kernel
theorem dX11_within_11 : decode cX11_within 11 = .ok (.goto 4, 3) := by decide +kernel
theorem dX11_within_14 : decode cX11_within 14 = .ok (.iconst 0, 1) := by decide +kernel
theorem dX11_within_15 : decode cX11_within 15 = .ok (.ireturn, 1) := by decide +kernel
def Fm_within (x0 : Int32) (x1 : Int32) (x2 : Int32) : Option Bool :=
  (if x0 < x1 then
    some false
  else
    (if x2 < x0 then
      some false
    else
      some true))
set_option maxRecDepth 100000 in
set_option maxHeartbeats 4000000 in
theorem t_Fm_within {g : GG} {d : Nat} {μ : Mm} (hd0 : 1 ≤ d) : ∀ (x0 : Int32) (x1 : Int32) (x2 : Int32) (r : Bool), Fm_within x0 x1 x2 = some r → Z g d (0, 0) mX11_within 333 0 0 0 [(0, .int x0), (1, .int x1), (2, .int x2)] [] μ (zF g (some (.int (b2i r)), μ)) := by
  intro x0 x1 x2 r h
  unfold Fm_within at h
  refine z_iload_n dX11_within_0 0 rfl ?_
  refine z_iload_n dX11_within_1 1 rfl ?_
  refine z_icmp_lt 14 dX11_within_2 rfl (fun hc1 => ?_) (fun hc1 => ?_)
  · replace h := oT hc1 h
    refine z_iconst (M := mX11_within) (v := 0) dX11_within_14 rfl ?_
    cases h
    exact z_zret dX11_within_15 rfl rfl
  · replace h := oF hc1 h
    refine z_iload_n dX11_within_5 0 rfl ?_
    refine z_iload_n dX11_within_6 2 rfl ?_
    refine z_icmp_gt 14 dX11_within_7 rfl (fun hc2 => ?_) (fun hc2 => ?_)
    · replace h := oT hc2 h
      refine z_iconst (M := mX11_within) (v := 0) dX11_within_14 rfl ?_
      cases h
      exact z_zret dX11_within_15 rfl rfl
    · replace h := oF hc2 h
      refine z_iconst (M := mX11_within) (v := 1) dX11_within_10 rfl ?_
      refine z_goto 15 dX11_within_11 rfl ?_
      cases h
      exact z_zret dX11_within_15 rfl rfl
theorem ct_Fm_within {g : GG} {d : Nat} {x0 : Int32} {x1 : Int32} {x2 : Int32} {μ : Mm} {r : Bool} (hd0 : 1 ≤ d)  (h : Fm_within x0 x1 x2 = some r) : Ct g d mX11_within [.int x0, .int x1, .int x2] μ (some (.int (b2i r)), μ) := y_entry in_X11_within (Nat.le_of_ble_eq_true rfl) rfl (t_Fm_within hd0 x0 x1 x2 r h)
-- FuseMinutes.isSpan(I)Z
theorem dX11_isSpan_0 : decode cX11_isSpan 0 = .ok (.iload_n 0, 1) := by decide +kernel
theorem dX11_isSpan_1 : decode cX11_isSpan 1 = .ok (.iconst 1, 1) := by decide +kernel
theorem dX11_isSpan_2 : decode cX11_isSpan 2 = .ok (.sipush 15360, 3) := by decide +kernel
theorem dX11_isSpan_5 : decode cX11_isSpan 5 = .ok (.invokestatic 72, 3) := by decide +kernel
theorem dX11_isSpan_8 : decode cX11_isSpan 8 = .ok (.ireturn, 1) := by decide +kernel
def Fm_isSpan (x0 : Int32) : Option Bool :=
  (Fm_within x0 (1 : Int32) (15360 : Int32)).bind fun v1 =>
  some v1
set_option maxRecDepth 100000 in
set_option maxHeartbeats 4000000 in
theorem t_Fm_isSpan {g : GG} {d : Nat} {μ : Mm} (hd0 : 2 ≤ d) : ∀ (x0 : Int32) (r : Bool), Fm_isSpan x0 = some r → Z g d (0, 0) mX11_isSpan 333 0 0 0 [(0, .int x0)] [] μ (zF g (some (.int (b2i r)), μ)) := by
  intro x0 r h
  unfold Fm_isSpan at h
  refine z_iload_n dX11_isSpan_0 0 rfl ?_
  refine z_iconst (M := mX11_isSpan) (v := 1) dX11_isSpan_1 rfl ?_
  refine z_sipush (M := mX11_isSpan) (v := 15360) dX11_isSpan_2 rfl ?_
  obtain ⟨v1, he1, h⟩ := obind h
  refine y_Si (M := mX11_isSpan) (Y := mX11_within) (d2 := d - 1) (As := [.int x0, .int (1 : Int32), .int (15360 : Int32)]) (st := []) dX11_isSpan_5 mlRX11_72 cv_X11_within (ct_Fm_within (dle (Nat.le_of_ble_eq_true rfl) hd0) he1) (dps (Nat.le_of_ble_eq_true rfl) hd0) rfl rfl (Nat.le_of_ble_eq_true rfl) ?_
  cases h
  exact z_zret dX11_isSpan_8 rfl (nar_b2i _)
theorem ct_Fm_isSpan {g : GG} {d : Nat} {x0 : Int32} {μ : Mm} {r : Bool} (hd0 : 2 ≤ d)  (h : Fm_isSpan x0 = some r) : Ct g d mX11_isSpan [.int x0] μ (some (.int (b2i r)), μ) := y_entry in_X11_isSpan (Nat.le_of_ble_eq_true rfl) rfl (t_Fm_isSpan hd0 x0 r h)

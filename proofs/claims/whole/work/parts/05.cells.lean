/-! The rows of the layer that read and write the cells; calls, ends, the entry. -/
/-- a class of the world, with what the tables say of its fields -/
def zcl (ci : Nat) (C : String) (T : u_T) (N : Nat) (ty0 : Nat → FieldType) : Prop := vwCl[ci]? = some (C, T, N) ∧ zn ci = N ∧ ci < 11 ∧ (∀ w ∈ u_ws C T N, w ∈ zTb) ∧ (∀ k, k < N → parseFieldDescriptor (T k).2.2.1 = some (ty0 k)) ∧ ∀ a, a < N → ∀ b, b < N → a ≠ b → (T a).2.1 ≠ (T b).2.1
/-- a field's place in a class's own pool: class, place, what it holds, type, whether final -/
def zfl (own : String) (idx ci j ty : Nat) (fty : FieldType) (fin : Bool) : Prop := ∃ (C : String) (T : u_T) (N : Nat) (ty0 : Nat → FieldType), zcl ci C T N ty0 ∧ j < N ∧ Cond.fieldLink own idx (T j).1 (T j).2.1 (T j).2.2.1 ∈ zTb ∧ zt ci j = ty ∧ parseFieldDescriptor (T j).2.2.1 = some fty ∧ (T j).2.2.2 = fin ∧ (T j).1 = C
section ZM
variable {g : GG} {d : Nat} {N : Nat × Nat} {M : MM} {n cl sl pc : Nat} {lv lv2 : List (Nat × Value)} {st : List Value} {μ : Mm} {F : FF} {q ci j idx : Nat} {fty : FieldType} {fin : Bool}
theorem z_getI (hd : decode (mB M) pc = .ok (.getfield idx, 3)) (hq : zk n q (ci, 0)) (hl : zfl (mO M) idx ci j 0 fty fin) (k : Z g d N M n cl sl (pc + 3) lv (.int (μ.1 q j) :: st) μ F) : Z g d N M n cl sl pc lv (.ref q :: st) μ F := by
  intro p e s m args below meth c R H locs ls C Rl S L
  obtain ⟨CC, T, NN, ty0, ⟨h1, h2, h3, h4, h5, h6⟩, hj, hw, ht, hp, hf, -⟩ := hl
  have he := zW_get g μ hq.1
  rw [zE_o μ hq h3] at he
  refine va_get C.1 C.2.1 C.2.2.2.2.2.1 h4 C.2.2.2.2.1 Rl.1 Rl.2.1 q he h1 j hj (C.2.2.2.2.2.1 _ hw) (fun x h => h) (zf_get g μ q ci (by rw [h2]; exact hj)) hd ?_
  rw [ht]
  exact (k p e s m args below meth c R H locs ls C Rl S L)
theorem z_getL (hd : decode (mB M) pc = .ok (.getfield idx, 3)) (hq : zk n q (ci, 0)) (hl : zfl (mO M) idx ci j 1 fty fin) (k : Z g d N M n cl sl (pc + 3) lv (.long (μ.2.1 q j) :: st) μ F) : Z g d N M n cl sl pc lv (.ref q :: st) μ F := by
  intro p e s m args below meth c R H locs ls C Rl S L
  obtain ⟨CC, T, NN, ty0, ⟨h1, h2, h3, h4, h5, h6⟩, hj, hw, ht, hp, hf, -⟩ := hl
  have he := zW_get g μ hq.1
  rw [zE_o μ hq h3] at he
  refine va_get C.1 C.2.1 C.2.2.2.2.2.1 h4 C.2.2.2.2.1 Rl.1 Rl.2.1 q he h1 j hj (C.2.2.2.2.2.1 _ hw) (fun x h => h) (zf_get g μ q ci (by rw [h2]; exact hj)) hd ?_
  rw [ht]
  exact (k p e s m args below meth c R H locs ls C Rl S L)
theorem z_getR {r : Nat} (hd : decode (mB M) pc = .ok (.getfield idx, 3)) (hq : zk n q (ci, 0)) (hl : zfl (mO M) idx ci j 2 fty fin) (hr : μ.2.2 q j = some r) (k : Z g d N M n cl sl (pc + 3) lv (.ref r :: st) μ F) : Z g d N M n cl sl pc lv (.ref q :: st) μ F := by
  intro p e s m args below meth c R H locs ls C Rl S L
  obtain ⟨CC, T, NN, ty0, ⟨h1, h2, h3, h4, h5, h6⟩, hj, hw, ht, hp, hf, -⟩ := hl
  have he := zW_get g μ hq.1
  rw [zE_o μ hq h3] at he
  refine va_get C.1 C.2.1 C.2.2.2.2.2.1 h4 C.2.2.2.2.1 Rl.1 Rl.2.1 q he h1 j hj (C.2.2.2.2.2.1 _ hw) (fun x h => h) (zf_get g μ q ci (by rw [h2]; exact hj)) hd ?_
  rw [ht]
  show W p g.1 e R s m args below meth c H locs cl sl (F below args s) (F0 m (pc + 3) ls (va_rf ((μ.2.2 q j).map (gA g)) :: zv g st))
  rw [hr]
  exact (k p e s m args below meth c R H locs ls C Rl S L)
theorem z_putI {x : Int32} (hd : decode (mB M) pc = .ok (.putfield idx, 3)) (hq : zk n q (ci, 0)) (hl : zfl (mO M) idx ci j 0 fty false) (hn : narrow fty (.int x) = .int x ∧ fits fty (.int x) = true) (k : Z g d N M n cl sl (pc + 3) lv st (zsi μ q j x) F) : Z g d N M n cl sl pc lv (.int x :: .ref q :: st) μ F := by
  intro p e s m args below meth c R H locs ls C Rl S L
  obtain ⟨CC, T, NN, ty0, ⟨h1, h2, h3, h4, h5, h6⟩, hj, hw, ht, hp, hf, -⟩ := hl
  have he := zW_get g μ hq.1
  rw [zE_o μ hq h3] at he
  have hj2 : j < zn ci := by rw [h2]; exact hj
  refine va_put C.1 C.2.1 C.2.2.2.2.2.1 h4 ty0 h5 h6 C.2.2.2.2.1 Rl.1 Rl.2.1 Rl.2.2 S q he h1 j hj (C.2.2.2.2.2.1 _ hw) (fun x h => h) hf (v := .int x) hp hn.1 hn.2 (by rw [zf_len]; exact hj2) hd (fun H1 locs1 hP hD hS => ?_)
  refine k p e s m args below meth c R H1 locs1 ls C (zR_set Rl.1 hq.1 ?_ ?NE hP hD) hS L
  · rw [zE_o _ hq h3]
    refine congrArg (fun f => Sum.inr (ci, f)) (zf_set ?_ ?_ hj2).symm
    · rw [ht]; simp [zV, zsi, zsl, zsr, va_up, upd, vp_updL, va_rf, tr]
    · intro i hi
      unfold zV
      split <;> simp [zsi, zsl, zsr, va_up, upd, vp_updL, hi]
  case NE => first | exact zsi_ne | exact zsl_ne | exact zsr_ne
theorem z_putL {x : Int64} (hd : decode (mB M) pc = .ok (.putfield idx, 3)) (hq : zk n q (ci, 0)) (hl : zfl (mO M) idx ci j 1 fty false) (hn : narrow fty (.long x) = .long x ∧ fits fty (.long x) = true) (k : Z g d N M n cl sl (pc + 3) lv st (zsl μ q j x) F) : Z g d N M n cl sl pc lv (.long x :: .ref q :: st) μ F := by
  intro p e s m args below meth c R H locs ls C Rl S L
  obtain ⟨CC, T, NN, ty0, ⟨h1, h2, h3, h4, h5, h6⟩, hj, hw, ht, hp, hf, -⟩ := hl
  have he := zW_get g μ hq.1
  rw [zE_o μ hq h3] at he
  have hj2 : j < zn ci := by rw [h2]; exact hj
  refine va_put C.1 C.2.1 C.2.2.2.2.2.1 h4 ty0 h5 h6 C.2.2.2.2.1 Rl.1 Rl.2.1 Rl.2.2 S q he h1 j hj (C.2.2.2.2.2.1 _ hw) (fun x h => h) hf (v := .long x) hp hn.1 hn.2 (by rw [zf_len]; exact hj2) hd (fun H1 locs1 hP hD hS => ?_)
  refine k p e s m args below meth c R H1 locs1 ls C (zR_set Rl.1 hq.1 ?_ ?NE hP hD) hS L
  · rw [zE_o _ hq h3]
    refine congrArg (fun f => Sum.inr (ci, f)) (zf_set ?_ ?_ hj2).symm
    · rw [ht]; simp [zV, zsi, zsl, zsr, va_up, upd, vp_updL, va_rf, tr]
    · intro i hi
      unfold zV
      split <;> simp [zsi, zsl, zsr, va_up, upd, vp_updL, hi]
  case NE => first | exact zsi_ne | exact zsl_ne | exact zsr_ne
theorem z_putR {x : Nat} (hd : decode (mB M) pc = .ok (.putfield idx, 3)) (hq : zk n q (ci, 0)) (hl : zfl (mO M) idx ci j 2 fty false) (hn : ∀ a, narrow fty (.ref a) = .ref a ∧ fits fty (.ref a) = true) (k : Z g d N M n cl sl (pc + 3) lv st (zsr μ q j (some x)) F) : Z g d N M n cl sl pc lv (.ref x :: .ref q :: st) μ F := by
  intro p e s m args below meth c R H locs ls C Rl S L
  obtain ⟨CC, T, NN, ty0, ⟨h1, h2, h3, h4, h5, h6⟩, hj, hw, ht, hp, hf, -⟩ := hl
  have he := zW_get g μ hq.1
  rw [zE_o μ hq h3] at he
  have hj2 : j < zn ci := by rw [h2]; exact hj
  refine va_put C.1 C.2.1 C.2.2.2.2.2.1 h4 ty0 h5 h6 C.2.2.2.2.1 Rl.1 Rl.2.1 Rl.2.2 S q he h1 j hj (C.2.2.2.2.2.1 _ hw) (fun x h => h) hf (v := .ref (gA g x)) hp (hn _).1 (hn _).2 (by rw [zf_len]; exact hj2) hd (fun H1 locs1 hP hD hS => ?_)
  refine k p e s m args below meth c R H1 locs1 ls C (zR_set Rl.1 hq.1 ?_ ?NE hP hD) hS L
  · rw [zE_o _ hq h3]
    refine congrArg (fun f => Sum.inr (ci, f)) (zf_set ?_ ?_ hj2).symm
    · rw [ht]; simp [zV, zsi, zsl, zsr, va_up, upd, vp_updL, va_rf, tr]
    · intro i hi
      unfold zV
      split <;> simp [zsi, zsl, zsr, va_up, upd, vp_updL, hi]
  case NE => first | exact zsi_ne | exact zsl_ne | exact zsr_ne
theorem z_iald {i : Int32} {L0 : Nat} (hd : decode (mB M) pc = .ok (.iaload, 1)) (hq : zk n q (20, L0)) (hi : vp_in i L0) (k : Z g d N M n cl sl (pc + 1) lv (.int (μ.1 q i.toNatClampNeg) :: st) μ F) : Z g d N M n cl sl pc lv (.int i :: .ref q :: st) μ F := by
  intro p e s m args below meth c R H locs ls C Rl S L
  have he := zW_get g μ hq.1
  rw [zE_i μ hq] at he
  exact va_iald C.1 C.2.1 Rl.1 Rl.2.1 q 0 he rfl hi hd (k p e s m args below meth c R H locs ls C Rl S L)
theorem z_lald {i : Int32} {L0 : Nat} (hd : decode (mB M) pc = .ok (.laload, 1)) (hq : zk n q (21, L0)) (hi : vp_in i L0) (k : Z g d N M n cl sl (pc + 1) lv (.long (μ.2.1 q i.toNatClampNeg) :: st) μ F) : Z g d N M n cl sl pc lv (.int i :: .ref q :: st) μ F := by
  intro p e s m args below meth c R H locs ls C Rl S L
  have he := zW_get g μ hq.1
  rw [zE_l μ hq] at he
  exact va_lald C.1 C.2.1 Rl.1 Rl.2.1 q 1 he rfl hi hd (k p e s m args below meth c R H locs ls C Rl S L)
theorem z_zald {i : Int32} {L0 : Nat} (hd : decode (mB M) pc = .ok (.baload, 1)) (hq : zk n q (22, L0)) (hi : vp_in i L0) (k : Z g d N M n cl sl (pc + 1) lv (.int (μ.1 q i.toNatClampNeg) :: st) μ F) : Z g d N M n cl sl pc lv (.int i :: .ref q :: st) μ F := by
  intro p e s m args below meth c R H locs ls C Rl S L
  have he := zW_get g μ hq.1
  rw [zE_z μ hq] at he
  exact va_zald C.1 C.2.1 Rl.1 Rl.2.1 q 2 he rfl hi hd (k p e s m args below meth c R H locs ls C Rl S L)
theorem z_aaldP {i : Int32} {L0 r : Nat} (hd : decode (mB M) pc = .ok (.aaload, 1)) (hq : zk n q (23, L0)) (hi : vp_in i L0) (hr : μ.2.2 q i.toNatClampNeg = some r) (k : Z g d N M n cl sl (pc + 1) lv (.ref r :: st) μ F) : Z g d N M n cl sl pc lv (.int i :: .ref q :: st) μ F := by
  intro p e s m args below meth c R H locs ls C Rl S L
  have he := zW_get g μ hq.1
  rw [zE_p μ hq] at he
  refine va_aldq C.1 C.2.1 Rl.1 Rl.2.1 q 3 he rfl hi hd ?_
  show W p g.1 e R s m args below meth c H locs cl sl (F below args s) (F0 m (pc + 1) ls (va_rf ((μ.2.2 q i.toNatClampNeg).map (gA g)) :: zv g st))
  rw [hr]
  exact (k p e s m args below meth c R H locs ls C Rl S L)
theorem z_aaldT {i : Int32} {L0 r : Nat} (hd : decode (mB M) pc = .ok (.aaload, 1)) (hq : zk n q (24, L0)) (hi : vp_in i L0) (hr : μ.2.2 q i.toNatClampNeg = some r) (k : Z g d N M n cl sl (pc + 1) lv (.ref r :: st) μ F) : Z g d N M n cl sl pc lv (.int i :: .ref q :: st) μ F := by
  intro p e s m args below meth c R H locs ls C Rl S L
  have he := zW_get g μ hq.1
  rw [zE_t μ hq] at he
  refine va_aldq C.1 C.2.1 Rl.1 Rl.2.1 q 4 he rfl hi hd ?_
  show W p g.1 e R s m args below meth c H locs cl sl (F below args s) (F0 m (pc + 1) ls (va_rf ((μ.2.2 q i.toNatClampNeg).map (gA g)) :: zv g st))
  rw [hr]
  exact (k p e s m args below meth c R H locs ls C Rl S L)
theorem z_iast {i : Int32} {x : Int32} {L0 : Nat} (hd : decode (mB M) pc = .ok (.iastore, 1)) (hq : zk n q (20, L0)) (hi : vp_in i L0) (k : Z g d N M n cl sl (pc + 1) lv st (zsi μ q i.toNatClampNeg x) F) : Z g d N M n cl sl pc lv (.int x :: .int i :: .ref q :: st) μ F := by
  intro p e s m args below meth c R H locs ls C Rl S L
  have he := zW_get g μ hq.1
  rw [zE_i μ hq] at he
  refine va_iast C.1 C.2.1 Rl.1 Rl.2.1 Rl.2.2 S q 0 he rfl hi hd (fun H1 locs1 hP hD hS => ?_)
  refine k p e s m args below meth c R H1 locs1 ls C (zR_set Rl.1 hq.1 ?_ ?NE hP hD) hS L
  · rw [zE_i _ hq]; simp [zsi, zsl, zsr, va_up]
  case NE => first | exact zsi_ne | exact zsl_ne | exact zsr_ne
theorem z_last {i : Int32} {x : Int64} {L0 : Nat} (hd : decode (mB M) pc = .ok (.lastore, 1)) (hq : zk n q (21, L0)) (hi : vp_in i L0) (k : Z g d N M n cl sl (pc + 1) lv st (zsl μ q i.toNatClampNeg x) F) : Z g d N M n cl sl pc lv (.long x :: .int i :: .ref q :: st) μ F := by
  intro p e s m args below meth c R H locs ls C Rl S L
  have he := zW_get g μ hq.1
  rw [zE_l μ hq] at he
  refine va_last C.1 C.2.1 Rl.1 Rl.2.1 Rl.2.2 S q 1 he rfl hi hd (fun H1 locs1 hP hD hS => ?_)
  refine k p e s m args below meth c R H1 locs1 ls C (zR_set Rl.1 hq.1 ?_ ?NE hP hD) hS L
  · rw [zE_l _ hq]; simp [zsi, zsl, zsr, va_up]
  case NE => first | exact zsi_ne | exact zsl_ne | exact zsr_ne
theorem z_zast {i : Int32} {x : Int32} {L0 : Nat} (hd : decode (mB M) pc = .ok (.bastore, 1)) (hq : zk n q (22, L0)) (hi : vp_in i L0) (k : Z g d N M n cl sl (pc + 1) lv st (zsi μ q i.toNatClampNeg (vp_nar .boolean x)) F) : Z g d N M n cl sl pc lv (.int x :: .int i :: .ref q :: st) μ F := by
  intro p e s m args below meth c R H locs ls C Rl S L
  have he := zW_get g μ hq.1
  rw [zE_z μ hq] at he
  refine va_zast C.1 C.2.1 Rl.1 Rl.2.1 Rl.2.2 S q 2 he rfl hi hd (fun H1 locs1 hP hD hS => ?_)
  refine k p e s m args below meth c R H1 locs1 ls C (zR_set Rl.1 hq.1 ?_ ?NE hP hD) hS L
  · rw [zE_z _ hq]; simp [zsi, zsl, zsr, va_up]
  case NE => first | exact zsi_ne | exact zsl_ne | exact zsr_ne
theorem z_alen {L0 : Nat} {v : Int32} (hd : decode (mB M) pc = .ok (.arraylength, 1)) (hq : zk n q (20, L0)) (hv : Int32.ofNat L0 = v) (k : Z g d N M n cl sl (pc + 1) lv (.int v :: st) μ F) : Z g d N M n cl sl pc lv (.ref q :: st) μ F := by
  intro p e s m args below meth c R H locs ls C Rl S L
  have he := zW_get g μ hq.1
  rw [zE_i μ hq] at he
  exact va_alen C.1 C.2.1 Rl.1 Rl.2.1 q 0 he rfl hv hd (k p e s m args below meth c R H locs ls C Rl S L)
theorem z_threes (hd : decode (mB M) pc = .ok (.getstatic idx, 3)) (hw : Cond.fieldLinkNest (mO M) idx RX11 "THREES" "[I" "FuseMinutes" = zNf) (k : Z g d N M n cl sl (pc + 3) lv (.ref 1000 :: st) μ F) : Z g d N M n cl sl pc lv st μ F := fun p e s m args below meth c R H locs ls C Rl S L => va_getsN C.1 C.2.1 C.2.2.2.2.2.2.2.2.1.1 S C.2.2.2.2.1 (va_Nw.use rfl (by rw [hw]; exact C.2.2.2.2.2.2.2.2.1.2.2.2.2.1.2.1)) (fun _ h => h) hd (k p e s m args below meth c R H locs ls C Rl S L)
theorem z_thald {i : Int32} (hd : decode (mB M) pc = .ok (.iaload, 1)) (hi : vp_in i 4) (k : Z g d N M n cl sl (pc + 1) lv (.int (zth i.toNatClampNeg) :: st) μ F) : Z g d N M n cl sl pc lv (.int i :: .ref 1000 :: st) μ F := fun p e s m args below meth c R H locs ls C Rl S L => va_ti C.1 C.2.1 C.2.2.2.2.2.2.2.2.1.2.1 S hi rfl hd (k p e s m args below meth c R H locs ls C Rl S L)
theorem zX_lt {U : State} {H : Heap} (h : zX g U H) : gA g 1001 < H.size := by
  obtain ⟨-, -, ⟨scr, h1, -⟩, -⟩ := h
  exact (Array.getElem?_eq_some_iff.mp h1).1
theorem z_sald {i : Int32} (hd : decode (mB M) pc = .ok (.iaload, 1)) (hi : vp_in i (gN g)) (k : Z g d N M n cl sl (pc + 1) lv (.int (gX g i.toNatClampNeg) :: st) μ F) : Z g d N M n cl sl pc lv (.int i :: .ref 1001 :: st) μ F := fun p e s m args below meth c R H locs ls C Rl S L => va_sld C.1 C.2.1 C.2.2.2.2.2.2.2.2.1.2.2.1 (zX_lt C.2.2.2.2.2.2.2.2.1) C.2.2.2.2.2.2.2.2.1.2.2.2.1 S hi hd (k p e s m args below meth c R H locs ls C Rl S L)
theorem z_slen (hd : decode (mB M) pc = .ok (.arraylength, 1)) (k : Z g d N M n cl sl (pc + 1) lv (.int (Int32.ofNat (gN g)) :: st) μ F) : Z g d N M n cl sl pc lv (.ref 1001 :: st) μ F := fun p e s m args below meth c R H locs ls C Rl S L => va_slen C.1 C.2.1 C.2.2.2.2.2.2.2.2.1.2.2.1 (zX_lt C.2.2.2.2.2.2.2.2.1) C.2.2.2.2.2.2.2.2.1.2.2.2.1 S hd (k p e s m args below meth c R H locs ls C Rl S L)
end ZM

/-! Constructors over the layer: cells are made, one behind the other. -/
abbrev zK (g : GG) (n0 : Nat) (s : State) : Prop := s.heap.size = gB g + n0 ∧ va_AO RX2 s ∧ va_AO RX9 s
def zvac (g : GG) (n0 : Nat) (F : FF) : Prop := ∀ below args s t, ¬ zK g n0 s → F below args s t
def zG (g : GG) : Prop := ∀ k, k < 333 → gA g k = gB g + k
/-- a new cell holds nothing yet -/
def zclr (μ : Mm) (n : Nat) : Mm := (va_up μ.1 n (fun _ => 0), va_up μ.2.1 n (fun _ => 0), va_up μ.2.2 n (fun _ => none))
def zdv (t : Nat) : Value := match t with
  | 0 => .int 0
  | 1 => .long 0
  | _ => .null
theorem zclr_ne {g : GG} {μ : Mm} {n : Nat} : ∀ j, j ≠ n → zE g (zclr μ n) j = zE g μ j := fun j h => zE_ne (by simp [zclr, va_up, h]) (by simp [zclr, va_up, h]) (by simp [zclr, va_up, h])
theorem zW_push (g : GG) (n : Nat) {μ μ' : Mm} {E : va_E} (hE : zE g μ' n = E) (ho : ∀ j, j < n → zE g μ' j = zE g μ j) : zW g n μ ++ [(gA g n, E)] = zW g (n + 1) μ' := by
  unfold zW
  rw [List.range_succ, List.map_append, List.map_singleton, hE]
  refine congrArg (· ++ [(gA g n, E)]) (List.map_congr_left fun k hk => ?_)
  rw [ho k (List.mem_range.mp hk)]
theorem zR_congr {g : GG} {n : Nat} {μ μ' : Mm} {U : State} {H : Heap} (h : ∀ k, k < n → zE g μ' k = zE g μ k) (hR : zR g n μ U H) : zR g n μ' U H := by
  have e : zW g n μ = zW g n μ' := by
    unfold zW
    exact List.map_congr_left fun k hk => by rw [h k (List.mem_range.mp hk)]
  rw [zR, ← e]
  exact hR
section ZI
variable {g : GG} {d d2 : Nat} {N : Nat × Nat} {M Y : MM} {n n0 n1 cl sl pc ms : Nat} {lv lv2 : List (Nat × Value)} {st As stk : List Value} {μ μ2 : Mm} {F : FF} {q ci j idx np : Nat} {fty : FieldType}
theorem z_congr (h : ∀ k, k < n → zE g μ2 k = zE g μ k) (k : Z g d N M n cl sl pc lv st μ2 F) : Z g d N M n cl sl pc lv st μ F := fun p e s m args below meth c R H locs ls C Rl S L => k p e s m args below meth c R H locs ls C (zR_congr h Rl) S L
theorem z_vac (hF : zvac g n0 F) (k : ∀ (p : Program) (e : Env) (s : State) (m : MethodId) (args : Array Value) (below : List Frame) (meth : Method) (c : Code) (R : Room) (H : Heap) (locs : List Loc) (ls : Array Slot),
    zC g d N M p s m args meth c R → zR g n μ s H → va_S (zA g) s.heap H locs → lv_has ls (mL M) (zl g lv) → zK g n0 s → W p g.1 e R s m args below meth c H locs cl sl (F below args s) (F0 m pc ls (zv g st))) : Z g d N M n cl sl pc lv st μ F := by
  intro p e s m args below meth c R H locs ls C Rl S L
  by_cases h : zK g n0 s
  · exact k p e s m args below meth c R H locs ls C Rl S L h
  · exact fun T hT X => ⟨_, Steps.refl _, hF _ _ _ _ h⟩
theorem z_size {s : State} {H : Heap} {locs : List Loc} (hg : zG g) (hn : n ≤ 333) (hn2 : n = n0 + cl) (hK : s.heap.size = gB g + n0) (hP : va_P (gD g) vwCl (zW g n μ) H) (hS : va_S (zA g) s.heap H locs) (hub : H.size ≤ s.heap.size + cl) : H.size = gB g + n := by
  rcases Nat.eq_zero_or_pos n with h | h
  · have := hS.1
    omega
  · have h1 := (hP (n - 1) _ (zW_get g μ (by omega))).lt
    have h2 := hg (n - 1) (by omega)
    have h3 : gA g (n - 1) < H.size := h1
    omega
theorem z_addr {E : va_E} {H1 : Heap} (hg : zG g) (hn : n < 333) (hP : va_P (gD g) vwCl (zW g n μ ++ [(q, E)]) H1) (hD : va_D (zA g) (zW g n μ ++ [(q, E)])) (hub : H1.size ≤ gB g + n + 1) : q = gA g n := by
  have hlen : (zW g n μ).length = n := by simp [zW]
  have hlast : (zW g n μ ++ [(q, E)])[n]? = some (q, E) := by
    rw [List.getElem?_append_right (by omega), hlen]
    simp
  have h1 : q < H1.size := (hP n _ hlast).lt
  have h2 : gB g ≤ q := hD.2 n _ hlast
  rw [hg n hn]
  rcases Nat.lt_or_ge (q - gB g) n with h | h
  · have hk : (zW g n μ ++ [(q, E)])[q - gB g]? = some (gA g (q - gB g), zE g μ (q - gB g)) := by
      rw [List.getElem?_append_left (by omega)]
      exact zW_get g μ h
    have e := hD.1 _ _ _ _ hk hlast (by rw [hg _ (by omega)]; show gB g + (q - gB g) = q; omega)
    omega
  · omega
theorem i_new {CC : String} {T : u_T} {NN : Nat} {ty0 : Nat → FieldType} (hF : zvac g n0 F) (hg : zG g) (hn : n = n0 + cl) (hd : decode (mB M) pc = .ok (.new idx, 3)) (hc : zcl ci CC T NN ty0) (hdf : ∀ j, j < NN → defaultValue (ty0 j) = zdv (zt ci j)) (hz : zk 333 n (ci, 0)) (hw : Cond.classLink (mO M) idx CC ∈ zTb ∧ Cond.instantiable CC NN ∈ zTb ∧ Cond.initialized CC ∈ zTb) (hcap : cl + 1 ≤ N.1 ∧ sl + NN ≤ N.2)
    (k : Z g d N M (n + 1) (cl + 1) (sl + NN) (pc + 3) lv (.ref n :: st) (zclr μ n) F) : Z g d N M n cl sl pc lv st μ F := by
  refine z_vac hF (fun p e s m args below meth c R H locs ls C Rl S L hk => ?_)
  obtain ⟨h1, h2, h3, h4, h5, h6⟩ := hc
  have hts := C.2.2.2.2.2.1
  have hfr := C.2.2.2.2.2.2.2.2.2
  refine va_new (fs := zf g (zclr μ n) n ci) C.1 C.2.1 hts h4 ty0 h5 C.2.2.2.2.1 (hts _ hw.1) (hts _ hw.2.1) (hts _ hw.2.2) Rl.1 Rl.2.1 Rl.2.2 S (fun x hx => by show gB g ≤ x; have := hk.1; omega) h1 (fun j hj => ?_) (Nat.le_trans hcap.1 hfr.2.2.1) (Nat.le_trans hcap.2 hfr.2.2.2) hd (fun q H1 hP hD hS => ?_)
  · rw [hdf j hj]
    have e1 := zf_get g (zclr μ n) n ci (j := j) (by rw [h2]; exact hj)
    simp only [vp_V, List.getD_eq_getElem?_getD, e1, Option.getD_some]
    generalize zt ci j = t
    match t with
    | 0 => simp [zV, zdv, zclr, va_up]
    | 1 => simp [zV, zdv, zclr, va_up]
    | t + 2 => simp [zV, zdv, zclr, va_up, va_rf]
  · intro T1 hT1 X1
    have hub : H1.size ≤ gB g + n + 1 := by
      have := X1.heapSize
      rw [hT1] at this
      have := hk.1
      omega
    have hq := z_addr hg hz.1 hP hD hub
    subst hq
    have e1 := zW_push g n (μ := μ) (μ' := zclr μ n) (zE_o _ hz h3) (fun j hj => zclr_ne j (by omega))
    rw [e1] at hP hD
    exact k p e s m args below meth c R H1 locs ls C ⟨Rl.1, hP, hD⟩ hS L T1 hT1 X1
theorem i_newaI {x : Int32} {L0 : Nat} (hF : zvac g n0 F) (hg : zG g) (hn : n = n0 + cl) (hd : decode (mB M) pc = .ok (.newarray .int, 2)) (hz : zk 333 n (20, L0)) (hx : ¬ x < 0 ∧ x.toNatClampNeg = L0 ∧ L0 * 4 ≤ 536870912) (harr : Cond.arrayClass .int ∈ zTb) (hcap : cl + 1 ≤ N.1 ∧ sl + L0 ≤ N.2)
    (k : Z g d N M (n + 1) (cl + 1) (sl + L0) (pc + 2) lv (.ref n :: st) (zclr μ n) F) : Z g d N M n cl sl pc lv (.int x :: st) μ F := by
  refine z_vac hF (fun p e s m args below meth c R H locs ls C Rl S L hk => ?_)
  have hts := C.2.2.2.2.2.1
  have hfr := C.2.2.2.2.2.2.2.2.2
  refine va_newa (a0 := (L0, .inl (fun _ => 0))) (N' := L0) (ty := .int) C.1 C.2.1 (atype := .int) (hts _ harr) rfl Rl.1 Rl.2.1 Rl.2.2 S (fun x hx => by show gB g ≤ x; have := hk.1; omega) (fun cA => rfl) hx.1 hx.2.1 hx.2.2 (Nat.le_trans hcap.1 hfr.2.2.1) (Nat.le_trans hcap.2 hfr.2.2.2) hd (fun q cA H1 hK hP hD hS => ?_)
  intro T1 hT1 X1
  have hub : H1.size ≤ gB g + n + 1 := by
    have := X1.heapSize
    rw [hT1] at this
    have := hk.1
    omega
  have hq := z_addr hg hz.1 hP hD hub
  subst hq
  have hcA : cA = gC g 0 := Option.some.inj ((hK.2 5 _ rfl).2.symm.trans (Rl.1.2 0 _ rfl).2)
  subst hcA
  have e1 := zW_push g n (μ := μ) (μ' := zclr μ n) (E := .inl (gC g 0, L0, .inl (fun _ => 0))) (by rw [zE_i _ hz]; simp [zclr, va_up]) (fun j hj => zclr_ne j (by omega))
  rw [e1] at hP hD
  exact k p e s m args below meth c R H1 locs ls C ⟨Rl.1, hP, hD⟩ hS L T1 hT1 X1
theorem i_newaJ {x : Int32} {L0 : Nat} (hF : zvac g n0 F) (hg : zG g) (hn : n = n0 + cl) (hd : decode (mB M) pc = .ok (.newarray .long, 2)) (hz : zk 333 n (21, L0)) (hx : ¬ x < 0 ∧ x.toNatClampNeg = L0 ∧ L0 * 8 ≤ 536870912) (harr : Cond.arrayClass .long ∈ zTb) (hcap : cl + 1 ≤ N.1 ∧ sl + L0 ≤ N.2)
    (k : Z g d N M (n + 1) (cl + 1) (sl + L0) (pc + 2) lv (.ref n :: st) (zclr μ n) F) : Z g d N M n cl sl pc lv (.int x :: st) μ F := by
  refine z_vac hF (fun p e s m args below meth c R H locs ls C Rl S L hk => ?_)
  have hts := C.2.2.2.2.2.1
  have hfr := C.2.2.2.2.2.2.2.2.2
  refine va_newa (a0 := (L0, .inr (.inl (fun _ => 0)))) (N' := L0) (ty := .long) C.1 C.2.1 (atype := .long) (hts _ harr) rfl Rl.1 Rl.2.1 Rl.2.2 S (fun x hx => by show gB g ≤ x; have := hk.1; omega) (fun cA => rfl) hx.1 hx.2.1 hx.2.2 (Nat.le_trans hcap.1 hfr.2.2.1) (Nat.le_trans hcap.2 hfr.2.2.2) hd (fun q cA H1 hK hP hD hS => ?_)
  intro T1 hT1 X1
  have hub : H1.size ≤ gB g + n + 1 := by
    have := X1.heapSize
    rw [hT1] at this
    have := hk.1
    omega
  have hq := z_addr hg hz.1 hP hD hub
  subst hq
  have hcA : cA = gC g 1 := Option.some.inj ((hK.2 5 _ rfl).2.symm.trans (Rl.1.2 1 _ rfl).2)
  subst hcA
  have e1 := zW_push g n (μ := μ) (μ' := zclr μ n) (E := .inl (gC g 1, L0, .inr (.inl (fun _ => 0)))) (by rw [zE_l _ hz]; simp [zclr, va_up]) (fun j hj => zclr_ne j (by omega))
  rw [e1] at hP hD
  exact k p e s m args below meth c R H1 locs ls C ⟨Rl.1, hP, hD⟩ hS L T1 hT1 X1
theorem i_newaZ {x : Int32} {L0 : Nat} (hF : zvac g n0 F) (hg : zG g) (hn : n = n0 + cl) (hd : decode (mB M) pc = .ok (.newarray .boolean, 2)) (hz : zk 333 n (22, L0)) (hx : ¬ x < 0 ∧ x.toNatClampNeg = L0 ∧ L0 * 1 ≤ 536870912) (harr : Cond.arrayClass .boolean ∈ zTb) (hcap : cl + 1 ≤ N.1 ∧ sl + L0 ≤ N.2)
    (k : Z g d N M (n + 1) (cl + 1) (sl + L0) (pc + 2) lv (.ref n :: st) (zclr μ n) F) : Z g d N M n cl sl pc lv (.int x :: st) μ F := by
  refine z_vac hF (fun p e s m args below meth c R H locs ls C Rl S L hk => ?_)
  have hts := C.2.2.2.2.2.1
  have hfr := C.2.2.2.2.2.2.2.2.2
  refine va_newa (a0 := (L0, .inl (fun _ => 0))) (N' := L0) (ty := .boolean) C.1 C.2.1 (atype := .boolean) (hts _ harr) rfl Rl.1 Rl.2.1 Rl.2.2 S (fun x hx => by show gB g ≤ x; have := hk.1; omega) (fun cA => rfl) hx.1 hx.2.1 hx.2.2 (Nat.le_trans hcap.1 hfr.2.2.1) (Nat.le_trans hcap.2 hfr.2.2.2) hd (fun q cA H1 hK hP hD hS => ?_)
  intro T1 hT1 X1
  have hub : H1.size ≤ gB g + n + 1 := by
    have := X1.heapSize
    rw [hT1] at this
    have := hk.1
    omega
  have hq := z_addr hg hz.1 hP hD hub
  subst hq
  have hcA : cA = gC g 2 := Option.some.inj ((hK.2 5 _ rfl).2.symm.trans (Rl.1.2 2 _ rfl).2)
  subst hcA
  have e1 := zW_push g n (μ := μ) (μ' := zclr μ n) (E := .inl (gC g 2, L0, .inl (fun _ => 0))) (by rw [zE_z _ hz]; simp [zclr, va_up]) (fun j hj => zclr_ne j (by omega))
  rw [e1] at hP hD
  exact k p e s m args below meth c R H1 locs ls C ⟨Rl.1, hP, hD⟩ hS L T1 hT1 X1
theorem i_newqP {x : Int32} {L0 : Nat} (hF : zvac g n0 F) (hg : zG g) (hn : n = n0 + cl) (hd : decode (mB M) pc = .ok (.anewarray idx, 3)) (hz : zk 333 n (23, L0)) (hx : ¬ x < 0 ∧ x.toNatClampNeg = L0 ∧ L0 * 4 ≤ 536870912) (hw : Cond.classLink (mO M) idx RX2 ∈ zTb) (hcap : cl + 1 ≤ N.1 ∧ sl + L0 ≤ N.2)
    (k : Z g d N M (n + 1) (cl + 1) (sl + L0) (pc + 3) lv (.ref n :: st) (zclr μ n) F) : Z g d N M n cl sl pc lv (.int x :: st) μ F := by
  refine z_vac hF (fun p e s m args below meth c R H locs ls C Rl S L hk => ?_)
  have hts := C.2.2.2.2.2.1
  have hfr := C.2.2.2.2.2.2.2.2.2
  refine va_newq (N' := L0) C.1 C.2.1 C.2.2.2.2.1 (hts _ hw) hk.2.1 Rl.1 Rl.2.1 Rl.2.2 S (fun x hx => by show gB g ≤ x; have := hk.1; omega) hx.1 hx.2.1 hx.2.2 (Nat.le_trans hcap.1 hfr.2.2.1) (Nat.le_trans hcap.2 hfr.2.2.2) hd (fun q cA H1 hK hP hD hS => ?_)
  intro T1 hT1 X1
  have hub : H1.size ≤ gB g + n + 1 := by
    have := X1.heapSize
    rw [hT1] at this
    have := hk.1
    omega
  have hq := z_addr hg hz.1 hP hD hub
  subst hq
  have hcA : cA = gC g 3 := by
    obtain ⟨_, _, _, _, _, a1⟩ := (hK.2 5 _ rfl).2
    obtain ⟨_, _, _, _, _, a2⟩ := (Rl.1.2 3 _ rfl).2
    exact Option.some.inj (a1.symm.trans a2)
  subst hcA
  have e1 := zW_push g n (μ := μ) (μ' := zclr μ n) (E := .inl (gC g 3, L0, .inr (.inr (.inr (.inr (fun _ => none)))))) (by rw [zE_p _ hz]; simp [zclr, va_up]) (fun j hj => zclr_ne j (by omega))
  rw [e1] at hP hD
  exact k p e s m args below meth c R H1 locs ls C ⟨Rl.1, hP, hD⟩ hS L T1 hT1 X1
theorem i_newqT {x : Int32} {L0 : Nat} (hF : zvac g n0 F) (hg : zG g) (hn : n = n0 + cl) (hd : decode (mB M) pc = .ok (.anewarray idx, 3)) (hz : zk 333 n (24, L0)) (hx : ¬ x < 0 ∧ x.toNatClampNeg = L0 ∧ L0 * 4 ≤ 536870912) (hw : Cond.classLink (mO M) idx RX9 ∈ zTb) (hcap : cl + 1 ≤ N.1 ∧ sl + L0 ≤ N.2)
    (k : Z g d N M (n + 1) (cl + 1) (sl + L0) (pc + 3) lv (.ref n :: st) (zclr μ n) F) : Z g d N M n cl sl pc lv (.int x :: st) μ F := by
  refine z_vac hF (fun p e s m args below meth c R H locs ls C Rl S L hk => ?_)
  have hts := C.2.2.2.2.2.1
  have hfr := C.2.2.2.2.2.2.2.2.2
  refine va_newq (N' := L0) C.1 C.2.1 C.2.2.2.2.1 (hts _ hw) hk.2.2 Rl.1 Rl.2.1 Rl.2.2 S (fun x hx => by show gB g ≤ x; have := hk.1; omega) hx.1 hx.2.1 hx.2.2 (Nat.le_trans hcap.1 hfr.2.2.1) (Nat.le_trans hcap.2 hfr.2.2.2) hd (fun q cA H1 hK hP hD hS => ?_)
  intro T1 hT1 X1
  have hub : H1.size ≤ gB g + n + 1 := by
    have := X1.heapSize
    rw [hT1] at this
    have := hk.1
    omega
  have hq := z_addr hg hz.1 hP hD hub
  subst hq
  have hcA : cA = gC g 4 := by
    obtain ⟨_, _, _, _, _, a1⟩ := (hK.2 5 _ rfl).2
    obtain ⟨_, _, _, _, _, a2⟩ := (Rl.1.2 4 _ rfl).2
    exact Option.some.inj (a1.symm.trans a2)
  subst hcA
  have e1 := zW_push g n (μ := μ) (μ' := zclr μ n) (E := .inl (gC g 4, L0, .inr (.inr (.inr (.inr (fun _ => none)))))) (by rw [zE_t _ hz]; simp [zclr, va_up]) (fun j hj => zclr_ne j (by omega))
  rw [e1] at hP hD
  exact k p e s m args below meth c R H1 locs ls C ⟨Rl.1, hP, hD⟩ hS L T1 hT1 X1
theorem z_putRF {x : Nat} (hd : decode (mB M) pc = .ok (.putfield idx, 3)) (hq : zk n q (ci, 0)) (hl : zfl (mO M) idx ci j 2 fty true) (hi : mN M = "<init>") (hdc : (vwCl[ci]?).map (fun r => r.1) = some (mO M)) (hn : ∀ a, narrow fty (.ref a) = .ref a ∧ fits fty (.ref a) = true) (k : Z g d N M n cl sl (pc + 3) lv st (zsr μ q j (some x)) F) : Z g d N M n cl sl pc lv (.ref x :: .ref q :: st) μ F := by
  intro p e s m args below meth c R H locs ls C Rl S L
  obtain ⟨CC, T, NN, ty0, ⟨h1, h2, h3, h4, h5, h6⟩, hj, hw, ht, hp, hf, hC⟩ := hl
  have he := zW_get g μ hq.1
  rw [zE_o μ hq h3] at he
  have hj2 : j < zn ci := by rw [h2]; exact hj
  rw [h1] at hdc
  have hdc2 : (T j).1 = mO M := hC.trans (Option.some.inj hdc)
  refine va_putF C.1 C.2.1 C.2.2.2.2.2.1 h4 ty0 h5 h6 C.2.2.2.2.1 Rl.1 Rl.2.1 Rl.2.2 S q he h1 j hj (C.2.2.2.2.2.1 _ hw) (fun x h => h) hf (C.2.2.2.2.2.2.2.1.trans hi) hdc2 (v := .ref (gA g x)) hp (hn _).1 (hn _).2 (by rw [zf_len]; exact hj2) hd (fun H1 locs1 hP hD hS => ?_)
  refine k p e s m args below meth c R H1 locs1 ls C (zR_set Rl.1 hq.1 ?_ zsr_ne hP hD) hS L
  rw [zE_o _ hq h3]
  refine congrArg (fun f => Sum.inr (ci, f)) (zf_set ?_ ?_ hj2).symm
  · rw [ht]; simp [zV, zsr, va_up, va_rf]
  · intro i hi
    unfold zV
    split <;> simp [zsr, va_up, hi]
theorem z_aastP {i : Int32} {x L0 : Nat} (hd : decode (mB M) pc = .ok (.aastore, 1)) (hq : zk n q (23, L0)) (hx : zk n x (1, 0)) (hi : vp_in i L0) (k : Z g d N M n cl sl (pc + 1) lv st (zsr μ q i.toNatClampNeg (some x)) F) : Z g d N M n cl sl pc lv (.ref x :: .int i :: .ref q :: st) μ F := by
  intro p e s m args below meth c R H locs ls C Rl S L
  have he := zW_get g μ hq.1
  rw [zE_p μ hq] at he
  have hv := zW_get g μ hx.1
  rw [zE_o μ hx (by decide)] at hv
  refine va_astq C.1 C.2.1 Rl.1 Rl.2.1 Rl.2.2 S q 3 x 1 he rfl hv rfl hi hd (fun H1 locs1 hP hD hS => ?_)
  refine k p e s m args below meth c R H1 locs1 ls C (zR_set Rl.1 hq.1 ?_ zsr_ne hP hD) hS L
  rw [zE_p _ hq]
  refine congrArg (fun f => Sum.inl (gC g 3, L0, Sum.inr (Sum.inr (Sum.inr (Sum.inr f))))) (funext fun j => ?_)
  by_cases hj : j = i.toNatClampNeg
  · subst hj; simp [zsr, va_up]
  · simp [zsr, va_up, hj]
theorem z_aastT {i : Int32} {x L0 : Nat} (hd : decode (mB M) pc = .ok (.aastore, 1)) (hq : zk n q (24, L0)) (hx : zk n x (7, 0)) (hi : vp_in i L0) (k : Z g d N M n cl sl (pc + 1) lv st (zsr μ q i.toNatClampNeg (some x)) F) : Z g d N M n cl sl pc lv (.ref x :: .int i :: .ref q :: st) μ F := by
  intro p e s m args below meth c R H locs ls C Rl S L
  have he := zW_get g μ hq.1
  rw [zE_t μ hq] at he
  have hv := zW_get g μ hx.1
  rw [zE_o μ hx (by decide)] at hv
  refine va_astq C.1 C.2.1 Rl.1 Rl.2.1 Rl.2.2 S q 4 x 7 he rfl hv rfl hi hd (fun H1 locs1 hP hD hS => ?_)
  refine k p e s m args below meth c R H1 locs1 ls C (zR_set Rl.1 hq.1 ?_ zsr_ne hP hD) hS L
  rw [zE_t _ hq]
  refine congrArg (fun f => Sum.inl (gC g 4, L0, Sum.inr (Sum.inr (Sum.inr (Sum.inr f))))) (funext fun j => ?_)
  by_cases hj : j = i.toNatClampNeg
  · subst hj; simp [zsr, va_up]
  · simp [zsr, va_up, hj]
theorem z_obj {x : Nat} (hd : decode (mB M) pc = .ok (.invokespecial idx, 3)) (hw : Cond.methodLink (mO M) idx Lib.objectInit ∈ zTb ∧ Cond.instanceMethod Lib.objectInit ∈ zTb ∧ Cond.code Lib.objectInit ⟨#[0xb1]⟩ 1 none ∈ zTb) (hdd : 1 ≤ d) (hW : (st.map fun v => v.category).sum ≤ 8) (k : Z g d N M n cl sl (pc + 3) lv st μ F) : Z g d N M n cl sl pc lv (.ref x :: st) μ F := by
  intro p e s m args below meth c R H locs ls C Rl S L
  have hts := C.2.2.2.2.2.1
  have hfr := C.2.2.2.2.2.2.2.2.2
  refine W.objInit C.1 C.2.1 C.2.2.2.2.1 (hts _ hw.1) (hts _ hw.2.1) (hts _ hw.2.2) rfl (L.1.trans C.2.2.2.1.symm) rfl hd (Nat.le_trans hdd hfr.1) ?_ (k p e s m args below meth c R H locs ls C Rl S L)
  show 2 * 0 + ((zv g st).map fun v => v.category).sum + 12 ≤ R.locals
  rw [zcat]
  have := hfr.2.1
  omega
/-- a constructor's contract: cells n0 .. n1 - 1 are made, the memory is μ2 then -/
def zrmI (d mc ms : Nat) : Room := { frames := d, cells := mc, slots := ms, locals := 64 * d }
abbrev zPcI (g : GG) (n0 : Nat) (As : List Value) (μ : Mm) : Array Value → State → Prop := fun a U => a = (zv g As).toArray ∧ zR g n0 μ U U.heap ∧ zX g U U.heap ∧ zK g n0 U
abbrev zQI (g : GG) (n1 : Nat) (μ2 : Mm) : Array Value → State → Outcome → State → Prop := fun _ st oc t => oc = .returned none ∧ zR g n1 μ2 t t.heap ∧ va_F (zA g) st t
def zFI (g : GG) (n0 n1 ms : Nat) (μ2 : Mm) : FF := fun below args s t => zK g n0 s → MQ below (zQI g n1 μ2) args s (n1 - n0) ms (zA g) t
def CtI (g : GG) (d : Nat) (Y : MM) (n0 n1 ms : Nat) (As : List Value) (μ μ2 : Mm) : Prop := Met g.1 Y.1 (zws Y) (zrmI d (n1 - n0) ms) (zPcI g n0 As μ) (zQI g n1 μ2) (n1 - n0) ms (zA g)
theorem zFI_vac : zvac g n0 (zFI g n0 n1 ms μ2) := fun _ _ _ _ h1 h2 => absurd h2 h1
theorem zK_warm {s U : State} (hW : s.vm.Alike U.vm) (hH : U.heap.size = gB g + n0) (h : zK g n1 s) : zK g n0 U := ⟨hH, h.2.1.moved hW, h.2.2.moved hW⟩
theorem W_mono {p : Program} {l : Launch} {e : Env} {R : Room} {s : State} {m : MethodId} {args : Array Value} {below : List Frame} {meth : Method} {c : Code} {H : Heap} {locs : List Loc} {Q Q2 : State → Prop} {fr : JFrame} (h : ∀ t, Q t → Q2 t) (k : W p l e R s m args below meth c H locs cl sl Q fr) : W p l e R s m args below meth c H locs cl sl Q2 fr := by
  intro T hT X
  obtain ⟨t, a, b⟩ := k T hT X
  exact ⟨t, a, h t b⟩
theorem i_ret (hd : decode (mB M) pc = .ok (.return_, 1)) (hr : mR M = none) (hn : n0 + cl = n1) (h : ∀ k, k < n1 → zE g μ2 k = zE g μ k) : Z g d N M n1 cl sl pc lv [] μ (zFI g n0 n1 sl μ2) := by
  intro p e s m args below meth c R H locs ls C Rl S L
  have ecl : cl = n1 - n0 := by omega
  subst ecl
  have Rl2 := zR_congr h Rl
  refine W_mono (Q := MQ below (zQI g n1 μ2) args s (n1 - n0) sl (zA g)) (fun t ht _ => ht) ?_
  exact W.vret C.1 C.2.1 (C.2.2.1.trans hr) (fun t ht hW => ⟨rfl, ⟨va_K.moved hW.alike Rl2.1, by rw [ht]; exact Rl2.2.1, Rl2.2.2⟩, S.F ht⟩) S.2.2 hd C.2.2.2.2.2.2.1
theorem i_entry {mc : Nat} (hY : zin Y) (hA : (lg_sl As).length ≤ mL Y) (hl : lv_args 0 As = lv) (hmc : n1 - n0 = mc) (h : Z g d (mc, ms) Y n0 0 0 0 lv [] μ (zFI g n0 n1 ms μ2)) : CtI g d Y n0 n1 ms As μ μ2 := by
  subst hmc
  refine Met.ofW (cc := mB Y) (maxL := mL Y) (ret := mR Y) hY.2 rfl ?_
  intro p e s m args below meth c s₁ B hml hv
  obtain ⟨rfl, hR, hX, hK⟩ := hv
  have hts0 := atoms_spec (ws := zws Y) B.pre
  have hl2 := lv_entry (zv g As) (n := mL Y) (by rw [zl_sl]; exact hA)
  rw [zl_args, hl] at hl2
  rw [lg_entry_eq]
  refine W_mono (Q := zFI g n0 n1 ms μ2 below _ s) (fun t ht => ht hK) ?_
  exact h p e s m _ below meth c (zrmI d (n1 - n0) ms) s.heap [] _ ⟨B.exec, B.bytes, B.returns, hml, findClass_of_methodNamed B.named, fun w hw => hts0 w (List.mem_cons_of_mem _ hw), B.notSynchronized, (name_of_methodNamed B.named B.method).1, hX, Nat.le_refl _, Nat.le_refl _, Nat.le_refl _, Nat.le_refl _⟩ hR va_S.rf hl2
theorem zPcI_blind : FrameBlind (zPcI g n0 As μ) := fun a U g' mk h => ⟨h.1, ⟨va_K.moved (u := U) (U := U.calling g' mk a) (Vm.Alike.refl U.vm) h.2.1.1, h.2.1.2⟩, zX_moved (u := U) (U := U.calling g' mk a) (Vm.Alike.refl U.vm) (zNw_same rfl h.2.2.1.2.2.2.2.1) h.2.2.1, zK_warm (s := U) (U := U.calling g' mk a) (Vm.Alike.refl U.vm) h.2.2.2.1 h.2.2.2⟩
def zcI (Y : MM) (np : Nat) : Prop := zcy Y np ∧ Y.1.name = "<init>" ∧ Cond.instanceMethod Y.1 ∈ zTb ∧ mR Y = none
/-- a constructor is called; its link is a plain one or one of the nest -/
theorem i_call (hF : zvac g n0 F) (hg : zG g) (hn : n = n0 + cl) (hn3 : n ≤ 333) (hd : decode (mB M) pc = .ok (.invokespecial idx, 3)) (hw : Cond.methodLink (mO M) idx Y.1 ∈ zTb ∨ (mO M, idx, Y.1) ∈ zNm) (hY : zcI Y np) (hC : CtI g d2 Y n n1 ms (.ref q :: As) μ μ2) (hdd : d2 + 1 ≤ d) (hnp2 : As.length = np) (hs : As.reverse ++ .ref q :: st = stk) (hW : (st.map fun v => v.category).sum ≤ 8) {cl2 sl2 : Nat} (ec : cl + (n1 - n) = cl2) (es : sl + ms = sl2) (hcap : cl2 ≤ N.1 ∧ sl2 ≤ N.2) (k : Z g d N M n1 cl2 sl2 (pc + 3) lv st μ2 F) : Z g d N M n cl sl pc lv stk μ F := by
  subst ec; subst es
  refine z_vac hF (fun p e s m args below meth c R H locs ls C Rl S L hk => ?_)
  obtain ⟨⟨hin, hml, hini, hy1, hy2, hnp⟩, hnm, hins, hret⟩ := hY
  have hts := C.2.2.2.2.2.1
  have hfr := C.2.2.2.2.2.2.2.2.2
  intro T hT X
  have hsz : H.size = gB g + n := z_size hg hn3 hn hk.1 Rl.2.1 S (by have := X.heapSize; rw [hT] at this; exact this)
  have hpre : PreS s H (zPcI g n (.ref q :: As) μ) (.ref (gA g q) :: zv g As) := ⟨zPcI_blind, fun U hU hW => ⟨rfl, ⟨va_K.moved hW.alike Rl.1, by rw [hU]; exact Rl.2.1, Rl.2.2⟩, by rw [hU]; exact zX_kept (zX_moved hW.alike (zNw_warm hW C.2.2.2.2.2.2.2.2.1.2.2.2.2.1) C.2.2.2.2.2.2.2.2.1) S.2.1, zK_warm hW.alike (by rw [hU]; exact hsz) hk⟩⟩
  have hcode : Cond.code Y.1 (mB Y) (mL Y) none ∈ zws Y := by
    have : zws Y = Cond.code Y.1 (mB Y) (mL Y) none :: zTb := by unfold zws; rw [hret]
    rw [this]; exact List.mem_cons_self
  have hws : zws Y = Cond.code Y.1 (mB Y) (mL Y) none :: zTb := by unfold zws; rw [hret]
  have hrun : va_Run p g.1 e R s m args below meth c H locs cl sl (n1 - n) ms (F0 m pc ls (zv g stk)) (zv g st) (zQI g n1 μ2 (Value.ref (gA g q) :: zv g As).toArray) (zA g) := by
    have hroom : (zrmI d2 (n1 - n) ms).frames + 1 ≤ R.frames ∧ 8 + (mL Y + 11) + (zrmI d2 (n1 - n) ms).locals ≤ R.locals := ⟨Nat.le_trans hdd hfr.1, by show 8 + (mL Y + 11) + 64 * d2 ≤ R.locals; have := hfr.2.1; omega⟩
    rcases hw with hw | hw
    · exact va_runI (As := zv g As) (rest := zv g st) (g := F0 m pc ls (zv g stk)) (nL := mL M) ⟨C.1, C.2.1, C.2.2.2.1, C.2.2.2.2.1, hts⟩ hC (cwI np hts (zGood hin) hws rfl rfl (hts _ hini) (hts _ hw) (hts _ hins) hnm ⟨hy1, hy2, hnp⟩ hroom) hpre rfl (by simp [zv, hnp2]) L.1 (by rw [← hs]; simp [zv, tr]) (lv_room (by rw [zcat]; exact hW)) hd ⟨Nat.le_trans hcap.1 hfr.2.2.1, Nat.le_trans hcap.2 hfr.2.2.2⟩
    · exact va_runIN (host := "FuseMinutes") (As := zv g As) (rest := zv g st) (g := F0 m pc ls (zv g stk)) (nL := mL M) ⟨C.1, C.2.1, C.2.2.2.1, C.2.2.2.2.1, hts⟩ hC ⟨va_cnB np hts (zGood hin) hws rfl rfl (C.2.2.2.2.2.2.2.2.1.2.2.2.2.1.1 _ hw) (hts _ hini) ⟨hy1, hy2, hnp⟩ hroom, hnm, hts _ hins⟩ hpre rfl (by simp [zv, hnp2]) L.1 (by rw [← hs]; simp [zv, tr]) (lv_room (by rw [zcat]; exact hW)) hd ⟨Nat.le_trans hcap.1 hfr.2.2.1, Nat.le_trans hcap.2 hfr.2.2.2⟩
  obtain ⟨v, st₀, t, T', L', h0, X', hL', e1, e2, ⟨hv, hR, hF2⟩, hst⟩ := hrun T hT X
  have hv2 : v = none := by cases hv; rfl
  subst hv2
  obtain ⟨t2, a1, b1⟩ := k p e s m args below meth c R t.heap (locs ++ L') ls C ⟨Rl.1, hR.2⟩ (z_back S h0 hF2 hL') L T' e1 X'
  exact ⟨t2, hst t2 a1, b1⟩
end ZI

/-! Contracts over the layer: entry, ends, calls. -/
def zws (Y : MM) : List Cond := .code Y.1 (mB Y) (mL Y) (mR Y) ::  zTb
/-- the method's own code stands among the words -/
def zin (Y : MM) : Prop := Cond.code Y.1 (mB Y) (mL Y) (mR Y) ∈ zTb ∧ plainName Y.1.cls = true
theorem zGood {Y : MM} (h : zin Y) : GoodIn zTb (zws Y) := by
  intro w hw
  have hm : w ∈ zTb := by
    rcases List.mem_cons.mp hw with e | e
    · rw [e]; exact h.1
    · exact e
  exact ⟨hm, good_of_word (List.mem_filter.mp hm).2⟩
def zrm (d : Nat) : Room := { frames := d, cells := 0, slots := 0, locals := 64 * d }
abbrev zPc (g : GG) (As : List Value) (μ : Mm) : Array Value → State → Prop := fun a U => a = (zv g As).toArray ∧ zR g 333 μ U U.heap ∧ zX g U U.heap
abbrev zQ (g : GG) (r : Option Value × Mm) : Array Value → State → Outcome → State → Prop := fun _ st oc t => oc = .returned (r.1.map (tr g)) ∧ zR g 333 r.2 t t.heap ∧ va_F (zA g) st t
def zF (g : GG) (r : Option Value × Mm) : FF := fun below args s => MQ below (zQ g r) args s 0 0 (zA g)
/-- the contract: from this memory, with these arguments, the method returns just r -/
def Ct (g : GG) (d : Nat) (Y : MM) (As : List Value) (μ : Mm) (r : Option Value × Mm) : Prop := Met g.1 Y.1 (zws Y) (zrm d) (zPc g As μ) (zQ g r) 0 0 (zA g)
theorem zNw_warm {g : GG} {s U : State} (hW : s.WarmedH U.vm) (h : zNw g s) : zNw g U := ⟨fun q hq => va_Nw.warmM hW (h.1 q hq), va_Nw.warmF hW h.2.1, h.2.2.1.warm hW, h.2.2.2.warm hW⟩
theorem zNw_same {g : GG} {u U : State} (hv : u.vm = U.vm) (h : zNw g u) : zNw g U := ⟨fun q hq => va_Nw.same rfl hv (h.1 q hq), va_Nw.same rfl hv h.2.1, h.2.2.1.same hv.symm, h.2.2.2.same hv.symm⟩
theorem zSt_moved {g : GG} {u U : State} {H : Heap} (hvm : u.vm.Alike U.vm) (h : zSt g u H) : zSt g U H := ⟨h.1.moved hvm, h.2.1.moved hvm, h.2.2.imp (fun q => q.moved hvm) (fun q => q.moved hvm)⟩
theorem zSt_kept {g : GG} {U : State} {H H1 : Heap} (h : zSt g U H) (hq : ∀ a : Nat, a < H.size → ¬ zA g a → H1[a]? = H[a]?) : zSt g U H1 := ⟨h.1.kept hq, h.2.1.kept hq, h.2.2.imp (fun q => q.kept hq) (fun q => q.kept hq)⟩
theorem zX_moved {g : GG} {u U : State} {H : Heap} (hvm : u.vm.Alike U.vm) (hN : zNw g U) (h : zX g u H) : zX g U H := ⟨h.1.moved hvm, h.2.1.moved hvm, h.2.2.1.moved hvm, h.2.2.2.1, hN, zSt_moved hvm h.2.2.2.2.2⟩
theorem zX_kept {g : GG} {U : State} {H H1 : Heap} (h : zX g U H) (hq : ∀ a : Nat, a < H.size → ¬ zA g a → H1[a]? = H[a]?) : zX g U H1 := ⟨h.1.kept hq, h.2.1.kept hq, h.2.2.1.kept (hq _ (zX_lt h) h.2.2.2.1), h.2.2.2.1, h.2.2.2.2.1, zSt_kept h.2.2.2.2.2 hq⟩
theorem zl_args (g : GG) : ∀ (As : List Value) (i : Nat), lv_args i (zv g As) = zl g (lv_args i As)
  | [], _ => rfl
  | v :: vs, i => by
    show (i, tr g v) :: lv_args (if (tr g v).category = 2 then i + 2 else i + 1) (zv g vs) = _
    rw [tr_cat, zl_args g vs]
    rfl
theorem zl_sl (g : GG) : ∀ (As : List Value), (lg_sl (zv g As)).length = (lg_sl As).length
  | [] => rfl
  | v :: vs => by
    have ih := zl_sl g vs
    simp only [lg_sl, zv, List.map_cons, List.flatMap_cons, List.length_append, tr_cat] at ih ⊢
    rw [ih]
    split <;> rfl
theorem z_entry {g : GG} {d : Nat} {Y : MM} {As : List Value} {μ : Mm} {r : Option Value × Mm} (hY : zin Y) (hA : (lg_sl As).length ≤ mL Y) (h : Z g d (0, 0) Y 333 0 0 0 (lv_args 0 As) [] μ (zF g r)) : Ct g d Y As μ r := by
  refine Met.ofW (cc := mB Y) (maxL := mL Y) (ret := mR Y) hY.2 rfl ?_
  intro p e s m args below meth c s₁ B hml hv
  obtain ⟨rfl, hR, hX⟩ := hv
  have hts0 := atoms_spec (ws := zws Y) B.pre
  have hl := lv_entry (zv g As) (n := mL Y) (by rw [zl_sl]; exact hA)
  rw [zl_args] at hl
  rw [lg_entry_eq]
  exact h p e s m _ below meth c (zrm d) s.heap [] _ ⟨B.exec, B.bytes, B.returns, hml, findClass_of_methodNamed B.named, fun w hw => hts0 w (List.mem_cons_of_mem _ hw), B.notSynchronized, (name_of_methodNamed B.named B.method).1, hX, Nat.le_refl _, Nat.le_refl _, Nat.le_refl _, Nat.le_refl _⟩ hR va_S.rf hl
theorem z_iret {g : GG} {d : Nat} {M : MM} {pc : Nat} {lv : List (Nat × Value)} {μ : Mm} {x : Int32} (hd : decode (mB M) pc = .ok (.ireturn, 1)) (hr : mR M = some .int) : Z g d (0, 0) M 333 0 0 pc lv [.int x] μ (zF g (some (.int x), μ)) := by
  intro p e s m args below meth c R H locs ls C Rl S L
  refine W.iret C.1 C.2.1 (C.2.2.1.trans hr)  (fun t ht hW => ⟨rfl, ⟨va_K.moved hW.alike Rl.1, by rw [ht]; exact Rl.2.1, Rl.2.2⟩, S.F ht⟩) S.2.2 hd C.2.2.2.2.2.2.1
theorem z_zret {g : GG} {d : Nat} {M : MM} {pc : Nat} {lv : List (Nat × Value)} {μ : Mm} {x : Int32} (hd : decode (mB M) pc = .ok (.ireturn, 1)) {ty : FieldType} (hr : mR M = some ty) (hn : narrow ty (.int x) = .int x) : Z g d (0, 0) M 333 0 0 pc lv [.int x] μ (zF g (some (.int x), μ)) := by
  intro p e s m args below meth c R H locs ls C Rl S L
  refine W.zret C.1 C.2.1 (C.2.2.1.trans hr) hn (fun t ht hW => ⟨rfl, ⟨va_K.moved hW.alike Rl.1, by rw [ht]; exact Rl.2.1, Rl.2.2⟩, S.F ht⟩) S.2.2 hd C.2.2.2.2.2.2.1
theorem z_lret {g : GG} {d : Nat} {M : MM} {pc : Nat} {lv : List (Nat × Value)} {μ : Mm} {x : Int64} (hd : decode (mB M) pc = .ok (.lreturn, 1)) (hr : mR M = some .long) : Z g d (0, 0) M 333 0 0 pc lv [.long x] μ (zF g (some (.long x), μ)) := by
  intro p e s m args below meth c R H locs ls C Rl S L
  refine W.lret C.1 C.2.1 (C.2.2.1.trans hr)  (fun t ht hW => ⟨rfl, ⟨va_K.moved hW.alike Rl.1, by rw [ht]; exact Rl.2.1, Rl.2.2⟩, S.F ht⟩) S.2.2 hd C.2.2.2.2.2.2.1
theorem z_vret {g : GG} {d : Nat} {M : MM} {pc : Nat} {lv : List (Nat × Value)} {μ : Mm}  (hd : decode (mB M) pc = .ok (.return_, 1)) (hr : mR M = none) : Z g d (0, 0) M 333 0 0 pc lv [] μ (zF g (none, μ)) := by
  intro p e s m args below meth c R H locs ls C Rl S L
  refine W.vret C.1 C.2.1 (C.2.2.1.trans hr)  (fun t ht hW => ⟨rfl, ⟨va_K.moved hW.alike Rl.1, by rw [ht]; exact Rl.2.1, Rl.2.2⟩, S.F ht⟩) S.2.2 hd C.2.2.2.2.2.2.1
/-- words of a call: the link, the parameters' number -/
abbrev zcy (Y : MM) (np : Nat) : Prop := zin Y ∧ mL Y ≤ 40 ∧ Cond.initialized Y.1.cls ∈ zTb ∧ Y.1.cls ≠ "java/lang/invoke/MethodHandle" ∧ Y.1.cls ≠ "java/lang/invoke/VarHandle" ∧ (parseMethodDescriptor Y.1.desc).map (fun d => d.parameters.length) = some np
/-- an own instance method, of a class of the world -/
def zcV (Y : MM) (ci np : Nat) : Prop := zcy Y np ∧ ci < 11 ∧ (∃ r, vwCl[ci]? = some r ∧ r.1 = Y.1.cls) ∧ Cond.instanceMethod Y.1 ∈ zTb ∧ Cond.selects Y.1.cls Y.1 Y.1 ∈ zTb
def zcS (Y : MM) (np : Nat) : Prop := zcy Y np ∧ Cond.static Y.1 ∈ zTb
theorem z_back {g : GG} {s t st0 : State} {H : Heap} {locs L : List Loc} (hS : va_S (zA g) s.heap H locs) (h0 : st0.heap = H) (hF : va_F (zA g) st0 t) (hL : ∀ q ∈ L, zA g q.base) : va_S (zA g) s.heap t.heap (locs ++ L) := by
  obtain ⟨a1, a2, a3⟩ := hS
  obtain ⟨b1, b2⟩ := hF
  rw [h0] at b1 b2
  refine ⟨Nat.le_trans a1 b1, fun q h1 h2 => (b2 q (Nat.lt_of_lt_of_le h1 a1) h2).trans (a2 q h1 h2), fun x hx => ?_⟩
  rcases List.mem_append.mp hx with h | h
  · exact a3 x h
  · exact hL x h
theorem zPc_blind {g : GG} {As : List Value} {μ : Mm} : FrameBlind (zPc g As μ) := fun a U g' mk h => ⟨h.1, ⟨va_K.moved (u := U) (U := U.calling g' mk a) (Vm.Alike.refl U.vm) h.2.1.1, h.2.1.2⟩, zX_moved (u := U) (U := U.calling g' mk a) (Vm.Alike.refl U.vm) (zNw_same rfl h.2.2.2.2.2.2.1) h.2.2⟩
theorem zPc_at {g : GG} {As : List Value} {μ : Mm} {s : State} {H : Heap} {locs : List Loc} (hR : zR g 333 μ s H) (hX : zX g s s.heap) (hS : va_S (zA g) s.heap H locs) : ∀ U : State, U.heap = H → s.WarmedH U.vm → zPc g As μ (zv g As).toArray U := fun U hU hW => ⟨rfl, ⟨va_K.moved hW.alike hR.1, by rw [hU]; exact hR.2.1, hR.2.2⟩, by rw [hU]; exact zX_kept (zX_moved hW.alike (zNw_warm hW hX.2.2.2.2.1) hX) hS.2.1⟩
theorem zcat {g : GG} {st : List Value} : ((zv g st).map fun v => v.category) = st.map fun v => v.category := by simp [zv, tr_cat]
section ZCALL
variable {g : GG} {d d2 : Nat} {M Y : MM} {pc idx ci np q : Nat} {lv : List (Nat × Value)} {st As : List Value} {μ : Mm} {F : FF} {r : Option Value × Mm}
theorem z_goes {p : Program} {e : Env} {s : State} {m : MethodId} {args : Array Value} {below : List Frame} {meth : Method} {c : Code} {R : Room} {H : Heap} {locs : List Loc} {ls : Array Slot} {a : Array Value} {stk : List Value}
    (hr : va_Run p g.1 e R s m args below meth c H locs 0 0 0 0 (F0 m pc ls stk) (zv g st) (zQ g r a) (zA g)) (C : zC g d (0, 0) M p s m args meth c R) (Rl : zR g 333 μ s H) (S : va_S (zA g) s.heap H locs) (L : lv_has ls (mL M) (zl g lv)) (k : Z g d (0, 0) M 333 0 0 (pc + 3) lv (r.1.toList ++ st) r.2 F) :
    W p g.1 e R s m args below meth c H locs 0 0 (F below args s) (F0 m pc ls stk) := by
  intro T hT X
  obtain ⟨v, st₀, t, T', L', h0, X', hL', e1, e2, ⟨hv, hR, hF⟩, hst⟩ := hr T hT X
  have hv2 : v = r.1.map (tr g) := by cases hv; rfl
  obtain ⟨t2, a1, b1⟩ := k p e s m args below meth c R t.heap (locs ++ L') ls C ⟨Rl.1, hR.2⟩ (z_back S h0 hF hL') L T' e1 X'
  refine ⟨t2, hst t2 ?_, b1⟩
  have e3 : v.toList ++ zv g st = zv g (r.1.toList ++ st) := by
    rw [hv2]; cases r.1 <;> rfl
  rw [e3]
  exact a1
theorem z_callV (hd : decode (mB M) pc = .ok (.invokevirtual idx, 3)) (hw : Cond.methodLink (mO M) idx Y.1 ∈ zTb) (hY : zcV Y ci np) (hq : zk 333 q (ci, 0)) (hC : Ct g d2 Y (.ref q :: As) μ r) (hdd : d2 + 1 ≤ d) (hn : As.length = np) {stk : List Value} (hs : As.reverse ++ .ref q :: st = stk) (hW : (st.map fun v => v.category).sum ≤ 8) (k : Z g d (0, 0) M 333 0 0 (pc + 3) lv (r.1.toList ++ st) r.2 F) : Z g d (0, 0) M 333 0 0 pc lv stk μ F := by
  intro p e s m args below meth c R H locs ls C Rl S L
  obtain ⟨⟨hin, hml, hini, hy1, hy2, hnp⟩, hci, ⟨rr, hr1, hr2⟩, hins, hsel⟩ := hY
  have hts := C.2.2.2.2.2.1
  have hfr := C.2.2.2.2.2.2.2.2.2
  have he := zW_get g μ hq.1
  rw [zE_o μ hq hci] at he
  have cw : CallW R s args (mO M) Y.1.cls idx Y.1 (mB Y) (mL Y) (mR Y) (zws Y) (zrm d2) 0 0 np := ⟨callB_of np hts (zGood hin) rfl rfl rfl (hts _ hini) (hts _ hw) ⟨hy1, hy2, hnp⟩ ⟨Nat.le_trans hdd hfr.1, by show 8 + (mL Y + 11) + 64 * d2 ≤ R.locals; have := hfr.2.1; omega⟩, hts _ hins, hts _ hsel⟩
  have hrec := va_recv Rl.1 Rl.2.1 hr1 he
  rw [hr2] at hrec
  have hrun := va_runV (e := e) (below := below) (meth := meth) (locs := locs) (cells := 0) (slots := 0) (As := zv g As) (rest := zv g st) (g := F0 m pc ls (zv g stk)) (nL := mL M) ⟨C.1, C.2.1, C.2.2.2.1, C.2.2.2.2.1, hts⟩ hC cw ⟨zPc_blind, hrec, zPc_at (As := .ref q :: As) Rl C.2.2.2.2.2.2.2.2.1 S⟩ rfl (by simp [zv, hn]) L.1 (by rw [← hs]; simp [zv, tr]) (lv_room (by rw [zcat]; exact hW)) hd ⟨Nat.zero_le _, Nat.zero_le _⟩
  exact z_goes hrun C Rl S L k
theorem z_callS (hd : decode (mB M) pc = .ok (.invokestatic idx, 3)) (hw : Cond.methodLink (mO M) idx Y.1 ∈ zTb) (hY : zcS Y np) (hC : Ct g d2 Y As μ r) (hdd : d2 + 1 ≤ d) (hn : As.length = np) {stk : List Value} (hs : As.reverse ++ st = stk) (hW : (st.map fun v => v.category).sum ≤ 8) (k : Z g d (0, 0) M 333 0 0 (pc + 3) lv (r.1.toList ++ st) r.2 F) : Z g d (0, 0) M 333 0 0 pc lv stk μ F := by
  intro p e s m args below meth c R H locs ls C Rl S L
  obtain ⟨⟨hin, hml, hini, hy1, hy2, hnp⟩, hst⟩ := hY
  have hts := C.2.2.2.2.2.1
  have hfr := C.2.2.2.2.2.2.2.2.2
  have cw : CallB R s args (mO M) idx Y.1 (mB Y) (mL Y) (mR Y) (zws Y) (zrm d2) 0 0 np ∧ (Cond.static Y.1).before args s = true := ⟨callB_of np hts (zGood hin) rfl rfl rfl (hts _ hini) (hts _ hw) ⟨hy1, hy2, hnp⟩ ⟨Nat.le_trans hdd hfr.1, by show 8 + (mL Y + 11) + 64 * d2 ≤ R.locals; have := hfr.2.1; omega⟩, hts _ hst⟩
  have hrun := va_runS (e := e) (below := below) (meth := meth) (locs := locs) (cells := 0) (slots := 0) (As := zv g As) (rest := zv g st) (g := F0 m pc ls (zv g stk)) (nL := mL M) ⟨C.1, C.2.1, C.2.2.2.1, C.2.2.2.2.1, hts⟩ hC cw ⟨zPc_blind, zPc_at Rl C.2.2.2.2.2.2.2.2.1 S⟩ rfl (by simp [zv, hn]) L.1 (by rw [← hs]; simp [zv, tr]) (lv_room (by rw [zcat]; exact hW)) hd ⟨Nat.zero_le _, Nat.zero_le _⟩
  exact z_goes hrun C Rl S L k
/-- a private static method of another class of the nest -/
theorem z_callSN (hd : decode (mB M) pc = .ok (.invokestatic idx, 3)) (hw : (mO M, idx, Y.1) ∈ zNm) (hY : zcS Y np) (hC : Ct g d2 Y As μ r) (hdd : d2 + 1 ≤ d) (hn : As.length = np) {stk : List Value} (hs : As.reverse ++ st = stk) (hW : (st.map fun v => v.category).sum ≤ 8) (k : Z g d (0, 0) M 333 0 0 (pc + 3) lv (r.1.toList ++ st) r.2 F) : Z g d (0, 0) M 333 0 0 pc lv stk μ F := by
  intro p e s m args below meth c R H locs ls C Rl S L
  obtain ⟨⟨hin, hml, hini, hy1, hy2, hnp⟩, hst⟩ := hY
  have hts := C.2.2.2.2.2.1
  have hfr := C.2.2.2.2.2.2.2.2.2
  have cw : va_CN R s args (mO M) idx Y.1 "FuseMinutes" (mB Y) (mL Y) (mR Y) (zws Y) (zrm d2) 0 0 np ∧ (Cond.static Y.1).before args s = true ∧ True := ⟨va_cnB np hts (zGood hin) rfl rfl rfl (C.2.2.2.2.2.2.2.2.1.2.2.2.2.1.1 _ hw) (hts _ hini) ⟨hy1, hy2, hnp⟩ ⟨Nat.le_trans hdd hfr.1, by show 8 + (mL Y + 11) + 64 * d2 ≤ R.locals; have := hfr.2.1; omega⟩, hts _ hst, trivial⟩
  have hrun := va_runSN (e := e) (below := below) (meth := meth) (locs := locs) (cells := 0) (slots := 0) (As := zv g As) (rest := zv g st) (g := F0 m pc ls (zv g stk)) (nL := mL M) ⟨C.1, C.2.1, C.2.2.2.1, C.2.2.2.2.1, hts⟩ hC cw ⟨zPc_blind, zPc_at Rl C.2.2.2.2.2.2.2.2.1 S⟩ rfl (by simp [zv, hn]) L.1 (by rw [← hs]; simp [zv, tr]) (lv_room (by rw [zcat]; exact hW)) hd ⟨Nat.zero_le _, Nat.zero_le _⟩
  exact z_goes hrun C Rl S L k
/-- int rows copied -/
def zcp (μ : Mm) (a sp b dp k : Nat) : Mm := (va_up μ.1 b (va_cpy (μ.1 a) (μ.1 b) sp dp k), μ.2)
theorem z_copy {a b L0 L1 : Nat} {sp dp k : Int32} (hd : decode (mB M) pc = .ok (.invokestatic idx, 3)) (hw : Cond.methodLink (mO M) idx arraycopyName ∈ zTb ∧ Cond.native arraycopyName ∈ zTb ∧ Cond.static arraycopyName ∈ zTb ∧ Cond.initialized "java/lang/System" ∈ zTb) (ha : zk 333 a (20, L0)) (hb : zk 333 b (20, L1)) (h : ¬ sp < 0 ∧ ¬ dp < 0 ∧ ¬ k < 0 ∧ sp.toNatClampNeg + k.toNatClampNeg ≤ L0 ∧ dp.toNatClampNeg + k.toNatClampNeg ≤ L1) (hdd : 1 ≤ d) (hW : (st.map fun v => v.category).sum ≤ 8)
    (kk : Z g d (0, 0) M 333 0 0 (pc + 3) lv st (zcp μ a sp.toNatClampNeg b dp.toNatClampNeg k.toNatClampNeg) F) : Z g d (0, 0) M 333 0 0 pc lv (.int k :: .int dp :: .ref b :: .int sp :: .ref a :: st) μ F := by
  intro p e s m args below meth c R H locs ls C Rl S L
  have hts := C.2.2.2.2.2.1
  have hfr := C.2.2.2.2.2.2.2.2.2
  have hea := zW_get g μ ha.1
  rw [zE_i μ ha] at hea
  have heb := zW_get g μ hb.1
  rw [zE_i μ hb] at heb
  have hcat : ((zv g st).map fun v => v.category) = st.map fun v => v.category := by simp [zv, tr_cat]
  refine va_copyi C.1 C.2.1 (C.2.2.2.1.trans L.1.symm) C.2.2.2.2.1 (hts _ hw.1) (hts _ hw.2.1) (hts _ hw.2.2.1) (hts _ hw.2.2.2) Rl.1 Rl.2.1 Rl.2.2 S a b 0 0 hea heb rfl rfl rfl h.1 h.2.1 h.2.2.1 h.2.2.2.1 h.2.2.2.2 (fun _ _ => rfl) (Nat.le_trans hdd hfr.1) ?_ hd (fun H1 locs1 hP hD hS => ?_)
  · show ((zv g st).map fun v => v.category).sum + _ ≤ _
    rw [hcat]
    have e1 : nativeFrameWords "java/lang/System" "arraycopy" 5 + 11 ≤ 48 := by decide
    have := hfr.2.1
    omega
  · refine kk p e s m args below meth c R H1 locs1 ls C (zR_set Rl.1 hb.1 ?_ ?_ hP hD) hS L
    · rw [zE_i _ hb]; simp [zcp, va_up]
    · exact fun j hj => zE_ne (by simp [zcp, va_up, hj]) rfl rfl
end ZCALL

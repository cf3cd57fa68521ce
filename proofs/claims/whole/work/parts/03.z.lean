/-! The layer of the static heap: every object of the run is a numbered cell; a memory holds what the cells hold; Z is the kit's W over it. -/
/-- memory: ints, longs, references, by cell and place -/
abbrev Mm : Type := (Nat → Nat → Int32) × (Nat → Nat → Int64) × (Nat → Nat → Option Nat)
/-- launch, class numbers, addresses of the cells, array classes, where new cells begin, the script -/
abbrev GG : Type := Launch × va_G × (Nat → Nat) × (Nat → ClassId) × Nat × (Nat × (Nat → Int32))
abbrev gD (g : GG) : va_G := g.2.1
abbrev gA (g : GG) : Nat → Nat := g.2.2.1
abbrev gC (g : GG) : Nat → ClassId := g.2.2.2.1
abbrev gB (g : GG) : Nat := g.2.2.2.2.1
abbrev gN (g : GG) : Nat := g.2.2.2.2.2.1
abbrev gX (g : GG) : Nat → Int32 := g.2.2.2.2.2.2
/-- a method: name, bytes, locals, return type -/
abbrev MM : Type := MethodName × ByteArray × Nat × Option FieldType
abbrev mO (M : MM) : String := M.1.cls
abbrev mN (M : MM) : String := M.1.name
abbrev mB (M : MM) : ByteArray := M.2.1
abbrev mL (M : MM) : Nat := M.2.2.1
abbrev mR (M : MM) : Option FieldType := M.2.2.2
abbrev FF : Type := List Frame → Array Value → State → State → Prop
abbrev vwCl : List vw_C := [(RX0, TX0, 4), (RX2, TX2, 8), (RX3, TX3, 11), (RX4, TX4, 14), (RX5, TX5, 3), (RX6, TX6, 11), (RX7, TX7, 4), (RX9, TX9, 8), (RX10, TX10, 2), (RX11, TX11, 7), (RX12, TX12, 37)]
/-- a value with cells' numbers for references, as the machine has it -/
def tr (g : GG) (v : Value) : Value := match v with
  | .ref k => .ref (gA g k)
  | w => w
theorem tr_cat (g : GG) (v : Value) : (tr g v).category = v.category := by cases v <;> rfl
def zv (g : GG) (st : List Value) : List Value := st.map (tr g)
def zl (g : GG) (lv : List (Nat × Value)) : List (Nat × Value) := lv.map (fun q => (q.1, tr g q.2))
/-- what a place of an object holds: 0 an int, 1 a long, else a reference -/
def zV (g : GG) (ty : Nat) (μ : Mm) (k j : Nat) : Value := match ty with
  | 0 => .int (μ.1 k j)
  | 1 => .long (μ.2.1 k j)
  | _ => va_rf ((μ.2.2 k j).map (gA g))
def zf (g : GG) (μ : Mm) (k ci : Nat) : List Value := (List.range (zn ci)).map (fun j => zV g (zt ci j) μ k j)
def zE (g : GG) (μ : Mm) (k : Nat) : va_E :=
  if (zs k).1 = 20 then .inl (gC g 0, (zs k).2, .inl (μ.1 k))
  else if (zs k).1 = 21 then .inl (gC g 1, (zs k).2, .inr (.inl (μ.2.1 k)))
  else if (zs k).1 = 22 then .inl (gC g 2, (zs k).2, .inl (μ.1 k))
  else if (zs k).1 = 23 then .inl (gC g 3, (zs k).2, .inr (.inr (.inr (.inr (fun j => (μ.2.2 k j).map (gA g))))))
  else if (zs k).1 = 24 then .inl (gC g 4, (zs k).2, .inr (.inr (.inr (.inr (fun j => (μ.2.2 k j).map (gA g))))))
  else .inr ((zs k).1, zf g μ k (zs k).1)
def zW (g : GG) (n : Nat) (μ : Mm) : va_W := (List.range n).map (fun k => (gA g k, zE g μ k))
def zA (g : GG) : Nat → Prop := fun q => gB g ≤ q
abbrev zty (g : GG) : List (ClassId × FieldType) := [(gC g 0, .int), (gC g 1, .long), (gC g 2, .boolean), (gC g 3, .object RX2), (gC g 4, .object RX9)]
abbrev zR (g : GG) (n : Nat) (μ : Mm) (U : State) (H : Heap) : Prop := va_K (gD g) vwCl (zty g) U ∧ va_P (gD g) vwCl (zW g n μ) H ∧ va_D (zA g) (zW g n μ)
def zth (j : Nat) : Int32 := ([1, 3, 9, 27] : List Int32).getD j 0
/-- the words that last from a method to its callees -/
def zTb : List Cond := lw_tbl.filter goodWord
theorem zm {w : Cond} (i : Nat) (h : lw_tbl[i]? = some w) (hg : goodWord w = true) : w ∈ zTb := List.mem_filter.mpr ⟨List.mem_of_getElem? h, hg⟩
abbrev zNw (g : GG) (U : State) : Prop := (∀ q ∈ zNm, va_Nw (.methodLinkNest q.1 q.2.1 q.2.2 "FuseMinutes") U) ∧ va_Nw zNf U ∧ vk_R RX3 zS0 zTx0 (gA g 1002) U ∧ vk_R RX3 zS1 zTx1 (gA g 1003) U
/-- the texts' own cells (1002, 1003 the Strings, 1004, 1005 their bytes), what the JDK's statics hold (1006: a formatter) -/
abbrev zSt (g : GG) (U : State) (H : Heap) : Prop := vk_S 2 zLen zByt (fun i => gA g (1002 + i)) (fun i => gA g (1004 + i)) (zA g) U H ∧ va_Z RJ0 "COMPACT_STRINGS" "Z" (.int 1) (zA g) U H ∧ (va_Z RJ3 "SIOOBE_FORMATTER" "Ljava/util/function/BiFunction;" .null (zA g) U H ∨ va_Z RJ3 "SIOOBE_FORMATTER" "Ljava/util/function/BiFunction;" (.ref (gA g 1006)) (zA g) U H)
/-- what lies outside: the row THREES (1000), the script (1001), the texts -/
abbrev zX (g : GG) (U : State) (H : Heap) : Prop :=
  va_Z RX11 "THREES" "[I" (.ref (gA g 1000)) (zA g) U H ∧ va_T .int (gA g 1000) 4 (fun j => .int (zth j)) (zA g) U H ∧ va_X (gA g 1001) (gN g) (gX g) U H ∧ ¬ zA g (gA g 1001) ∧ zNw g U ∧ zSt g U H
abbrev zC (g : GG) (d : Nat) (N : Nat × Nat) (M : MM) (p : Program) (s : State) (m : MethodId) (args : Array Value) (meth : Method) (c : Code) (R : Room) : Prop :=
  p.tables.exec = Jvm.exec ∧ c.code = mB M ∧ meth.sig.returnType = mR M ∧ c.maxLocals = mL M ∧ s.vm.findClass (mO M) = some m.cls ∧ (∀ w ∈ zTb, w.before args s = true) ∧ meth.locks = false ∧ meth.name = mN M ∧ zX g s s.heap ∧ d ≤ R.frames ∧ 64 * d ≤ R.locals ∧ N.1 ≤ R.cells ∧ N.2 ≤ R.slots
/-- the machine at pc, with these locals, this stack and this memory, comes to F -/
def Z (g : GG) (d : Nat) (N : Nat × Nat) (M : MM) (n cl sl pc : Nat) (lv : List (Nat × Value)) (st : List Value) (μ : Mm) (F : FF) : Prop :=
  ∀ (p : Program) (e : Env) (s : State) (m : MethodId) (args : Array Value) (below : List Frame) (meth : Method) (c : Code) (R : Room) (H : Heap) (locs : List Loc) (ls : Array Slot),
    zC g d N M p s m args meth c R → zR g n μ s H → va_S (zA g) s.heap H locs → lv_has ls (mL M) (zl g lv) → W p g.1 e R s m args below meth c H locs cl sl (F below args s) (F0 m pc ls (zv g st))
-- cells of the world
theorem zW_get (g : GG) {n : Nat} (μ : Mm) {k : Nat} (h : k < n) : (zW g n μ)[k]? = some (gA g k, zE g μ k) := by
  simp [zW, h]
theorem zW_set (g : GG) {n : Nat} {μ μ' : Mm} {k : Nat} (h : k < n) {E : va_E} (hE : zE g μ' k = E) (ho : ∀ j, j ≠ k → zE g μ' j = zE g μ j) : (zW g n μ).set k (gA g k, E) = zW g n μ' := by
  apply List.ext_getElem?
  intro i
  by_cases hi : i = k
  · subst hi
    rw [zW_get g μ' h, List.getElem?_set_self (by simp [zW, h]), hE]
  · rw [List.getElem?_set_ne (Ne.symm hi)]
    by_cases hn : i < n
    · rw [zW_get g μ hn, zW_get g μ' hn, ho i hi]
    · simp [zW, hn]
/-- a cell's number and kind -/
def zk (n q : Nat) (t : Nat × Nat) : Prop := q < n ∧ zs q = t
theorem zE_i {g : GG} {n q L : Nat} (μ : Mm) (h : zk n q (20, L)) : zE g μ q = .inl (gC g 0, L, .inl (μ.1 q)) := by simp [zE, h.2]
theorem zE_l {g : GG} {n q L : Nat} (μ : Mm) (h : zk n q (21, L)) : zE g μ q = .inl (gC g 1, L, .inr (.inl (μ.2.1 q))) := by simp [zE, h.2]
theorem zE_z {g : GG} {n q L : Nat} (μ : Mm) (h : zk n q (22, L)) : zE g μ q = .inl (gC g 2, L, .inl (μ.1 q)) := by simp [zE, h.2]
theorem zE_p {g : GG} {n q L : Nat} (μ : Mm) (h : zk n q (23, L)) : zE g μ q = .inl (gC g 3, L, .inr (.inr (.inr (.inr (fun j => (μ.2.2 q j).map (gA g)))))) := by simp [zE, h.2]
theorem zE_t {g : GG} {n q L : Nat} (μ : Mm) (h : zk n q (24, L)) : zE g μ q = .inl (gC g 4, L, .inr (.inr (.inr (.inr (fun j => (μ.2.2 q j).map (gA g)))))) := by simp [zE, h.2]
theorem zE_o {g : GG} {n q ci : Nat} (μ : Mm) (h : zk n q (ci, 0)) (hc : ci < 11) : zE g μ q = .inr (ci, zf g μ q ci) := by
  have h2 := h.2
  simp only [zE, h2]
  rw [if_neg (by omega), if_neg (by omega), if_neg (by omega), if_neg (by omega), if_neg (by omega)]
-- changes of a memory
def zsi (μ : Mm) (q j : Nat) (v : Int32) : Mm := (va_up μ.1 q (upd (μ.1 q) j v), μ.2)
def zsl (μ : Mm) (q j : Nat) (v : Int64) : Mm := (μ.1, va_up μ.2.1 q (vp_updL (μ.2.1 q) j v), μ.2.2)
def zsr (μ : Mm) (q j : Nat) (v : Option Nat) : Mm := (μ.1, μ.2.1, va_up μ.2.2 q (va_up (μ.2.2 q) j v))
theorem zE_ne {g : GG} {μ μ' : Mm} {j : Nat} (h1 : μ'.1 j = μ.1 j) (h2 : μ'.2.1 j = μ.2.1 j) (h3 : μ'.2.2 j = μ.2.2 j) : zE g μ' j = zE g μ j := by
  have hV : ∀ ty i, zV g ty μ' j i = zV g ty μ j i := fun ty i => by
    unfold zV; rw [h1, h2, h3]
  have hf : ∀ ci, zf g μ' j ci = zf g μ j ci := fun ci => by
    unfold zf; simp only [hV]
  unfold zE
  rw [h1, h2, h3, hf]
theorem zsi_ne {g : GG} {μ : Mm} {q i : Nat} {v : Int32} : ∀ j, j ≠ q → zE g (zsi μ q i v) j = zE g μ j := fun j h => zE_ne (by simp [zsi, va_up, h]) rfl rfl
theorem zsl_ne {g : GG} {μ : Mm} {q i : Nat} {v : Int64} : ∀ j, j ≠ q → zE g (zsl μ q i v) j = zE g μ j := fun j h => zE_ne rfl (by simp [zsl, va_up, h]) rfl
theorem zsr_ne {g : GG} {μ : Mm} {q i : Nat} {v : Option Nat} : ∀ j, j ≠ q → zE g (zsr μ q i v) j = zE g μ j := fun j h => zE_ne rfl rfl (by simp [zsr, va_up, h])
theorem zf_len (g : GG) (μ : Mm) (q ci : Nat) : (zf g μ q ci).length = zn ci := by simp [zf]
theorem zf_get (g : GG) (μ : Mm) (q ci : Nat) {j : Nat} (h : j < zn ci) : (zf g μ q ci)[j]? = some (zV g (zt ci j) μ q j) := by simp [zf, h]
theorem zf_set {g : GG} {μ μ' : Mm} {q ci j : Nat} {v : Value} (hv : zV g (zt ci j) μ' q j = v) (ho : ∀ i, i ≠ j → zV g (zt ci i) μ' q i = zV g (zt ci i) μ q i) (hj : j < zn ci) : (zf g μ q ci).set j v = zf g μ' q ci := by
  apply List.ext_getElem?
  intro i
  by_cases hi : i = j
  · subst hi
    rw [zf_get g μ' q ci hj, List.getElem?_set_self (by rw [zf_len]; exact hj), hv]
  · rw [List.getElem?_set_ne (Ne.symm hi)]
    by_cases hn : i < zn ci
    · rw [zf_get g μ q ci hn, zf_get g μ' q ci hn, ho i hi]
    · simp [zf, hn]
theorem zR_set {g : GG} {n : Nat} {μ μ' : Mm} {U : State} {H1 : Heap} {k : Nat} {E : va_E} (hK : va_K (gD g) vwCl (zty g) U) (hk : k < n) (hE : zE g μ' k = E) (ho : ∀ j, j ≠ k → zE g μ' j = zE g μ j) (hP : va_P (gD g) vwCl ((zW g n μ).set k (gA g k, E)) H1) (hD : va_D (zA g) ((zW g n μ).set k (gA g k, E))) : zR g n μ' U H1 := by
  rw [zW_set g hk hE ho] at hP hD
  exact ⟨hK, hP, hD⟩

/-! Behind the constructors references are fixed: a memory is ints, longs and the Text that is read into. -/
abbrev Nm : Type := (Nat → Nat → Int32) × (Nat → Nat → Int64) × Nat
def zroL : List (List (Nat × Nat)) := [[(2, 283), (2, 284), (0, 0), (0, 0)], [(0, 0), (0, 0), (0, 0), (0, 0), (1, 1), (1, 2), (1, 3), (0, 0)], [(2, 272), (0, 0), (0, 0), (0, 0), (0, 0), (0, 0), (0, 0), (0, 0), (0, 0), (0, 0), (0, 0)], [(2, 128), (0, 0), (0, 0), (2, 277), (0, 0), (0, 0), (0, 0), (2, 278), (2, 279), (2, 280), (2, 281), (0, 0), (0, 0), (0, 0)], [(1, 1), (0, 0), (0, 0)], [(1, 1), (1, 5), (1, 127), (1, 128), (0, 0), (0, 0), (0, 0), (0, 0), (1, 129), (1, 131), (1, 133)], [(2, 1), (2, 275), (0, 0), (0, 0)], [(1, 1), (1, 2), (1, 3), (0, 0), (1, 4), (0, 0), (1, 5), (1, 6)], [(1, 1), (0, 0)], [(2, 1), (2, 136), (2, 271), (2, 273), (2, 274), (2, 276), (2, 282)], [(2, 314), (2, 315), (2, 316), (2, 317), (0, 0), (0, 0), (0, 0), (0, 0), (0, 0), (0, 0), (0, 0), (0, 0), (0, 0), (0, 0), (0, 0), (2, 318), (0, 0), (0, 0), (0, 0), (0, 0), (2, 319), (2, 320), (2, 321), (0, 0), (0, 0), (2, 322), (2, 323), (2, 324), (2, 325), (2, 326), (2, 327), (2, 328), (0, 0), (2, 329), (2, 330), (2, 331), (2, 332)]]
/-- where a reference field points to -/
def zto (ci j q : Nat) : Nat := match (zroL.getD ci []).getD j (0, 0) with
  | (1, o) => q + o
  | (_, v) => v
def zrf (t q j : Nat) : Option Nat := if q = 271 ∧ j = 10 then (if t = 0 then none else some t) else if (zs q).1 = 23 then some (q + 1 + 4 * j) else if (zs q).1 = 24 then some (285 + 7 * j) else some (zto (zs q).1 j q)
def zem (ν : Nm) : Mm := (ν.1, ν.2.1, zrf ν.2.2)
def gi (ν : Nm) (q j : Nat) : Int32 := ν.1 q j
def gl (ν : Nm) (q j : Nat) : Int64 := ν.2.1 q j
def gx (ν : Nm) : Nat := ν.2.2
def si (ν : Nm) (q j : Nat) (v : Int32) : Nm := (va_up ν.1 q (upd (ν.1 q) j v), ν.2)
def sl (ν : Nm) (q j : Nat) (v : Int64) : Nm := (ν.1, va_up ν.2.1 q (vp_updL (ν.2.1 q) j v), ν.2.2)
def sx (ν : Nm) (t : Nat) : Nm := (ν.1, ν.2.1, t)
def scp (ν : Nm) (a sp b dp k : Nat) : Nm := (va_up ν.1 b (va_cpy (ν.1 a) (ν.1 b) sp dp k), ν.2)
def inb (i : Int32) (n : Nat) : Bool := decide (0 ≤ i) && decide (i.toNatClampNeg < n)
theorem inb_vp {i : Int32} {n : Nat} (h : inb i n = true) : vp_in i n := by
  simp only [inb, Bool.and_eq_true, decide_eq_true_eq] at h
  rintro (h1 | h1)
  · exact Int32.not_le.mpr h1 h.1
  · omega
def b2i (b : Bool) : Int32 := if b then 1 else 0
theorem nar_b2i (b : Bool) : narrow .boolean (.int (b2i b)) = .int (b2i b) := by cases b <;> rfl
theorem vnar_b2i (b : Bool) : vp_nar .boolean (b2i b) = b2i b := by cases b <;> rfl
theorem oif {α : Type} {c : Bool} {X : Option α} {r : α} (h : (if c then X else none) = some r) : c = true ∧ X = some r := by
  cases c
  · cases h
  · exact ⟨rfl, h⟩
theorem oifn {α : Type} {c : Prop} [Decidable c] {X : Option α} {r : α} (h : (if c then none else X) = some r) : ¬ c ∧ X = some r := by
  by_cases hc : c
  · rw [if_pos hc] at h; cases h
  · rw [if_neg hc] at h; exact ⟨hc, h⟩
theorem obind {α β : Type} {o : Option α} {f : α → Option β} {r : β} (h : o.bind f = some r) : ∃ v, o = some v ∧ f v = some r := by
  cases o with
  | none => cases h
  | some v => exact ⟨v, rfl, h⟩
theorem i32ne {x v : Int32} {z : Int} (h : ¬ x = v) (hv : v.toInt = z) : x.toInt ≠ z := fun e => h (Int32.toInt_inj.mp (e.trans hv.symm))
def zcn (ci j : Nat) : Bool := decide (ci < 11) && !(decide (ci = 2) && decide (j = 10))
theorem zcn_spec {ci j : Nat} (h : zcn ci j = true) : ci < 11 ∧ ¬ (ci = 2 ∧ j = 10) := by
  simp only [zcn, Bool.and_eq_true, decide_eq_true_eq, Bool.not_eq_true', Bool.and_eq_false_iff, decide_eq_false_iff_not] at h
  exact ⟨h.1, fun ⟨a, b⟩ => h.2.elim (fun q => q a) (fun q => q b)⟩
theorem oT {α : Type} {c : Prop} [Decidable c] {A B : Option α} {r : α} (hc : c) (h : (if c then A else B) = some r) : A = some r := by rwa [if_pos hc] at h
theorem oF {α : Type} {c : Prop} [Decidable c] {A B : Option α} {r : α} (hc : ¬ c) (h : (if c then A else B) = some r) : B = some r := by rwa [if_neg hc] at h
theorem oFn {α : Type} {c : Prop} [Decidable c] {A B : Option α} {r : α} (hc : c) (h : (if ¬ c then A else B) = some r) : B = some r := by rwa [if_neg (fun q => q hc)] at h
def zkT (t : Nat) : Bool := decide (zs t = (7, 0))
theorem zkT_ok {t : Nat} (h : zkT t = true) : zk 333 t (7, 0) := by
  have h2 : zs t = (7, 0) := of_decide_eq_true h
  refine ⟨?_, h2⟩
  rcases Nat.lt_or_ge t 333 with q | q
  · exact q
  · have e : zs t = (99, 0) := by
      unfold zs
      rw [List.getD_eq_getElem?_getD, List.getElem?_eq_none (by show zsL.length ≤ t; have e2 : zsL.length = 333 := by decide +kernel
                                                                omega)]
      rfl
    rw [e] at h2
    cases h2
theorem zkT_ne {t : Nat} (h : zk 333 t (7, 0)) : t ≠ 0 := by
  rintro rfl
  exact absurd h.2 (by decide +kernel)
theorem dle {a b d : Nat} (h1 : a + 1 ≤ b) (h2 : b ≤ d) : a ≤ d - 1 := Nat.le_sub_of_add_le (Nat.le_trans h1 h2)
theorem dps {b d : Nat} (h1 : 1 ≤ b) (h2 : b ≤ d) : d - 1 + 1 ≤ d := by omega
def zbo (x : Int32) : Bool := decide (x = 0) || decide (x = 1)
theorem zbo_b2i {x : Int32} (h : zbo x = true) : b2i (x != 0) = x := by
  simp only [zbo, Bool.or_eq_true, decide_eq_true_eq] at h
  rcases h with rfl | rfl <;> rfl
theorem zbo_nar {x : Int32} (h : zbo x = true) : vp_nar .boolean x = x := by rw [← zbo_b2i h]; exact vnar_b2i _
theorem fit_b2i (b : Bool) : fits .boolean (.int (b2i b)) = true := by cases b <;> rfl
/-- bounds of loops and of recursion: far above what any run needs -/
def FU : Nat := 1000000000
def FR : Nat := 200
theorem zkoP {q : Nat} {i : Int32} (h : zk 333 q (23, 30)) (hi : inb i 30 = true) : zk 333 (q + 1 + 4 * i.toNatClampNeg) (1, 0) := by
  have hj : i.toNatClampNeg < 30 := by
    simp only [inb, Bool.and_eq_true, decide_eq_true_eq] at hi
    exact hi.2
  have key : ∀ q, q < 333 → zs q = (23, 30) → ∀ j, j < 30 → q + 1 + 4 * j < 333 ∧ zs (q + 1 + 4 * j) = (1, 0) := by decide +kernel
  exact key q h.1 h.2 _ hj
theorem zkoT {i : Int32} (hi : inb i 4 = true) : zk 333 (285 + 7 * i.toNatClampNeg) (7, 0) := by
  have hj : i.toNatClampNeg < 4 := by
    simp only [inb, Bool.and_eq_true, decide_eq_true_eq] at hi
    exact hi.2
  have key : ∀ j, j < 4 → 285 + 7 * j < 333 ∧ zs (285 + 7 * j) = (7, 0) := by decide +kernel
  exact key _ hj
theorem zrf_o {t q j ci : Nat} (hq : zk 333 q (ci, 0)) (hc : ci < 11) (hn : ¬ (ci = 2 ∧ j = 10)) : zrf t q j = some (zto ci j q) := by
  have h2 := hq.2
  unfold zrf
  rw [h2, if_neg, if_neg (by show ¬ ci = 23; omega), if_neg (by show ¬ ci = 24; omega)]
  rintro ⟨e1, e2⟩
  subst e1
  have e3 : zs 271 = (2, 0) := by decide +kernel
  rw [e3] at h2
  exact hn ⟨(congrArg Prod.fst h2).symm, e2⟩
theorem zem_sx (ν : Nm) {t : Nat} (ht : t ≠ 0) : zsr (zem ν) 271 10 (some t) = zem (sx ν t) := by
  unfold zsr zem sx
  refine Prod.ext rfl (Prod.ext rfl ?_)
  funext q j
  show va_up (zrf ν.2.2) 271 (va_up (zrf ν.2.2 271) 10 (some t)) q j = zrf t q j
  unfold va_up
  by_cases hq : q = 271
  · subst hq
    by_cases hj : j = 10
    · subst hj; simp [zrf, ht]
    · simp [zrf, hj]
  · simp [zrf, hq]

theorem zmt1 {w : Cond} (i : Nat) (h : tables_1_1[i]? = some w) (hg : goodWord w = true) : w ∈ zTb := List.mem_filter.mpr ⟨List.mem_append_right _ (List.mem_append_left _ (List.mem_of_getElem? h)), hg⟩
theorem zmt2 {w : Cond} (i : Nat) (h : tables_1_2[i]? = some w) (hg : goodWord w = true) : w ∈ zTb := List.mem_filter.mpr ⟨List.mem_append_right _ (List.mem_append_right _ (List.mem_append_left _ (List.mem_of_getElem? h))), hg⟩
theorem zmt3 {w : Cond} (i : Nat) (h : tables_1_3[i]? = some w) (hg : goodWord w = true) : w ∈ zTb := List.mem_filter.mpr ⟨List.mem_append_right _ (List.mem_append_right _ (List.mem_append_right _ (List.mem_append_left _ (List.mem_of_getElem? h)))), hg⟩
theorem zmt4 {w : Cond} (i : Nat) (h : tables_1_4[i]? = some w) (hg : goodWord w = true) : w ∈ zTb := List.mem_filter.mpr ⟨List.mem_append_right _ (List.mem_append_right _ (List.mem_append_right _ (List.mem_append_right _ (List.mem_append_left _ (List.mem_of_getElem? h))))), hg⟩
theorem zmt5 {w : Cond} (i : Nat) (h : tables_1_5[i]? = some w) (hg : goodWord w = true) : w ∈ zTb := List.mem_filter.mpr ⟨List.mem_append_right _ (List.mem_append_right _ (List.mem_append_right _ (List.mem_append_right _ (List.mem_append_right _ (List.mem_append_left _ (List.mem_of_getElem? h)))))), hg⟩
theorem zmt6 {w : Cond} (i : Nat) (h : tables_1_6[i]? = some w) (hg : goodWord w = true) : w ∈ zTb := List.mem_filter.mpr ⟨List.mem_append_right _ (List.mem_append_right _ (List.mem_append_right _ (List.mem_append_right _ (List.mem_append_right _ (List.mem_append_right _ (List.mem_append_left _ (List.mem_of_getElem? h))))))), hg⟩
theorem zmt7 {w : Cond} (i : Nat) (h : tables_1_7[i]? = some w) (hg : goodWord w = true) : w ∈ zTb := List.mem_filter.mpr ⟨List.mem_append_right _ (List.mem_append_right _ (List.mem_append_right _ (List.mem_append_right _ (List.mem_append_right _ (List.mem_append_right _ (List.mem_append_right _ (List.mem_append_left _ (List.mem_of_getElem? h)))))))), hg⟩
theorem zmt8 {w : Cond} (i : Nat) (h : tables_1_8[i]? = some w) (hg : goodWord w = true) : w ∈ zTb := List.mem_filter.mpr ⟨List.mem_append_right _ (List.mem_append_right _ (List.mem_append_right _ (List.mem_append_right _ (List.mem_append_right _ (List.mem_append_right _ (List.mem_append_right _ (List.mem_append_right _ (List.mem_of_getElem? h)))))))), hg⟩
theorem zmp1 {q : MethodName × Nat} (i : Nat) (h : lw_privs_1[i]? = some q) : Cond.selects q.1.cls q.1 q.1 ∈ zTb := List.mem_filter.mpr ⟨List.mem_append_left _ (List.mem_map.mpr ⟨q, List.mem_append_left _ (List.mem_of_getElem? h), rfl⟩), rfl⟩
theorem zmp2 {q : MethodName × Nat} (i : Nat) (h : lw_privs_2[i]? = some q) : Cond.selects q.1.cls q.1 q.1 ∈ zTb := List.mem_filter.mpr ⟨List.mem_append_left _ (List.mem_map.mpr ⟨q, List.mem_append_right _ (List.mem_append_left _ (List.mem_of_getElem? h)), rfl⟩), rfl⟩
theorem zmp3 {q : MethodName × Nat} (i : Nat) (h : lw_privs_3[i]? = some q) : Cond.selects q.1.cls q.1 q.1 ∈ zTb := List.mem_filter.mpr ⟨List.mem_append_left _ (List.mem_map.mpr ⟨q, List.mem_append_right _ (List.mem_append_right _ (List.mem_append_left _ (List.mem_of_getElem? h))), rfl⟩), rfl⟩
theorem zmp4 {q : MethodName × Nat} (i : Nat) (h : lw_privs_4[i]? = some q) : Cond.selects q.1.cls q.1 q.1 ∈ zTb := List.mem_filter.mpr ⟨List.mem_append_left _ (List.mem_map.mpr ⟨q, List.mem_append_right _ (List.mem_append_right _ (List.mem_append_right _ (List.mem_append_left _ (List.mem_of_getElem? h)))), rfl⟩), rfl⟩
theorem zmp5 {q : MethodName × Nat} (i : Nat) (h : lw_privs_5[i]? = some q) : Cond.selects q.1.cls q.1 q.1 ∈ zTb := List.mem_filter.mpr ⟨List.mem_append_left _ (List.mem_map.mpr ⟨q, List.mem_append_right _ (List.mem_append_right _ (List.mem_append_right _ (List.mem_append_right _ (List.mem_append_left _ (List.mem_of_getElem? h))))), rfl⟩), rfl⟩
theorem zmp6 {q : MethodName × Nat} (i : Nat) (h : lw_privs_6[i]? = some q) : Cond.selects q.1.cls q.1 q.1 ∈ zTb := List.mem_filter.mpr ⟨List.mem_append_left _ (List.mem_map.mpr ⟨q, List.mem_append_right _ (List.mem_append_right _ (List.mem_append_right _ (List.mem_append_right _ (List.mem_append_right _ (List.mem_append_left _ (List.mem_of_getElem? h)))))), rfl⟩), rfl⟩
theorem zmp7 {q : MethodName × Nat} (i : Nat) (h : lw_privs_7[i]? = some q) : Cond.selects q.1.cls q.1 q.1 ∈ zTb := List.mem_filter.mpr ⟨List.mem_append_left _ (List.mem_map.mpr ⟨q, List.mem_append_right _ (List.mem_append_right _ (List.mem_append_right _ (List.mem_append_right _ (List.mem_append_right _ (List.mem_append_right _ (List.mem_append_left _ (List.mem_of_getElem? h))))))), rfl⟩), rfl⟩
theorem zmp8 {q : MethodName × Nat} (i : Nat) (h : lw_privs_8[i]? = some q) : Cond.selects q.1.cls q.1 q.1 ∈ zTb := List.mem_filter.mpr ⟨List.mem_append_left _ (List.mem_map.mpr ⟨q, List.mem_append_right _ (List.mem_append_right _ (List.mem_append_right _ (List.mem_append_right _ (List.mem_append_right _ (List.mem_append_right _ (List.mem_append_right _ (List.mem_append_left _ (List.mem_of_getElem? h)))))))), rfl⟩), rfl⟩
theorem zmp9 {q : MethodName × Nat} (i : Nat) (h : lw_privs_9[i]? = some q) : Cond.selects q.1.cls q.1 q.1 ∈ zTb := List.mem_filter.mpr ⟨List.mem_append_left _ (List.mem_map.mpr ⟨q, List.mem_append_right _ (List.mem_append_right _ (List.mem_append_right _ (List.mem_append_right _ (List.mem_append_right _ (List.mem_append_right _ (List.mem_append_right _ (List.mem_append_right _ (List.mem_of_getElem? h)))))))), rfl⟩), rfl⟩
def imax (x y : Int32) : Int32 := if x < y then y else x
def imin (x y : Int32) : Int32 := if y < x then y else x
def lmax (x y : Int64) : Int64 := if y < x then x else y
def lmin (x y : Int64) : Int64 := if y < x then y else x
def labs (x : Int64) : Int64 := if 0 < x then x else -x
/-- the length of a list told -/
def tl (q : Nat) : Nat := (zs (q + 1)).2
def zmw (y : MethodName) (code : ByteArray) (n : Nat) (ret : Option FieldType) : Prop := Cond.static y ∈ zTb ∧ Cond.initialized "java/lang/Math" ∈ zTb ∧ Cond.code y code n ret ∈ zTb

theorem lk_out {d k : Int} : ∀ {ps : List (Int × Int)}, (∀ q ∈ ps, q.1 ≠ k) → Op.lookupswitch.offset ps d k = d
  | [], _ => rfl
  | (a, o) :: r, h => by
    rw [Op.lookupswitch.offset_cons, if_neg (h (a, o) List.mem_cons_self)]
    exact lk_out (fun q hq => h q (List.mem_cons_of_mem _ hq))

theorem fr_0_0 : zcn 0 0 = true ∧ ∀ q, zto 0 0 q = 283 := ⟨rfl, fun _ => rfl⟩
theorem fr_0_1 : zcn 0 1 = true ∧ ∀ q, zto 0 1 q = 284 := ⟨rfl, fun _ => rfl⟩
theorem fr_1_4 : zcn 1 4 = true ∧ ∀ q, zto 1 4 q = q + 1 := ⟨rfl, fun _ => rfl⟩
theorem fr_1_5 : zcn 1 5 = true ∧ ∀ q, zto 1 5 q = q + 2 := ⟨rfl, fun _ => rfl⟩
theorem fr_1_6 : zcn 1 6 = true ∧ ∀ q, zto 1 6 q = q + 3 := ⟨rfl, fun _ => rfl⟩
theorem fr_2_0 : zcn 2 0 = true ∧ ∀ q, zto 2 0 q = 272 := ⟨rfl, fun _ => rfl⟩
theorem fr_3_0 : zcn 3 0 = true ∧ ∀ q, zto 3 0 q = 128 := ⟨rfl, fun _ => rfl⟩
theorem fr_3_3 : zcn 3 3 = true ∧ ∀ q, zto 3 3 q = 277 := ⟨rfl, fun _ => rfl⟩
theorem fr_3_7 : zcn 3 7 = true ∧ ∀ q, zto 3 7 q = 278 := ⟨rfl, fun _ => rfl⟩
theorem fr_3_8 : zcn 3 8 = true ∧ ∀ q, zto 3 8 q = 279 := ⟨rfl, fun _ => rfl⟩
theorem fr_3_9 : zcn 3 9 = true ∧ ∀ q, zto 3 9 q = 280 := ⟨rfl, fun _ => rfl⟩
theorem fr_3_10 : zcn 3 10 = true ∧ ∀ q, zto 3 10 q = 281 := ⟨rfl, fun _ => rfl⟩
theorem fr_4_0 : zcn 4 0 = true ∧ ∀ q, zto 4 0 q = q + 1 := ⟨rfl, fun _ => rfl⟩
theorem fr_5_0 : zcn 5 0 = true ∧ ∀ q, zto 5 0 q = q + 1 := ⟨rfl, fun _ => rfl⟩
theorem fr_5_1 : zcn 5 1 = true ∧ ∀ q, zto 5 1 q = q + 5 := ⟨rfl, fun _ => rfl⟩
theorem fr_5_2 : zcn 5 2 = true ∧ ∀ q, zto 5 2 q = q + 127 := ⟨rfl, fun _ => rfl⟩
theorem fr_5_3 : zcn 5 3 = true ∧ ∀ q, zto 5 3 q = q + 128 := ⟨rfl, fun _ => rfl⟩
theorem fr_5_8 : zcn 5 8 = true ∧ ∀ q, zto 5 8 q = q + 129 := ⟨rfl, fun _ => rfl⟩
theorem fr_5_9 : zcn 5 9 = true ∧ ∀ q, zto 5 9 q = q + 131 := ⟨rfl, fun _ => rfl⟩
theorem fr_5_10 : zcn 5 10 = true ∧ ∀ q, zto 5 10 q = q + 133 := ⟨rfl, fun _ => rfl⟩
theorem fr_6_0 : zcn 6 0 = true ∧ ∀ q, zto 6 0 q = 1 := ⟨rfl, fun _ => rfl⟩
theorem fr_6_1 : zcn 6 1 = true ∧ ∀ q, zto 6 1 q = 275 := ⟨rfl, fun _ => rfl⟩
theorem fr_7_0 : zcn 7 0 = true ∧ ∀ q, zto 7 0 q = q + 1 := ⟨rfl, fun _ => rfl⟩
theorem fr_7_1 : zcn 7 1 = true ∧ ∀ q, zto 7 1 q = q + 2 := ⟨rfl, fun _ => rfl⟩
theorem fr_7_2 : zcn 7 2 = true ∧ ∀ q, zto 7 2 q = q + 3 := ⟨rfl, fun _ => rfl⟩
theorem fr_7_4 : zcn 7 4 = true ∧ ∀ q, zto 7 4 q = q + 4 := ⟨rfl, fun _ => rfl⟩
theorem fr_7_6 : zcn 7 6 = true ∧ ∀ q, zto 7 6 q = q + 5 := ⟨rfl, fun _ => rfl⟩
theorem fr_7_7 : zcn 7 7 = true ∧ ∀ q, zto 7 7 q = q + 6 := ⟨rfl, fun _ => rfl⟩
theorem fr_8_0 : zcn 8 0 = true ∧ ∀ q, zto 8 0 q = q + 1 := ⟨rfl, fun _ => rfl⟩
theorem fr_9_0 : zcn 9 0 = true ∧ ∀ q, zto 9 0 q = 1 := ⟨rfl, fun _ => rfl⟩
theorem fr_9_1 : zcn 9 1 = true ∧ ∀ q, zto 9 1 q = 136 := ⟨rfl, fun _ => rfl⟩
theorem fr_9_2 : zcn 9 2 = true ∧ ∀ q, zto 9 2 q = 271 := ⟨rfl, fun _ => rfl⟩
theorem fr_9_3 : zcn 9 3 = true ∧ ∀ q, zto 9 3 q = 273 := ⟨rfl, fun _ => rfl⟩
theorem fr_9_4 : zcn 9 4 = true ∧ ∀ q, zto 9 4 q = 274 := ⟨rfl, fun _ => rfl⟩
theorem fr_9_5 : zcn 9 5 = true ∧ ∀ q, zto 9 5 q = 276 := ⟨rfl, fun _ => rfl⟩
theorem fr_9_6 : zcn 9 6 = true ∧ ∀ q, zto 9 6 q = 282 := ⟨rfl, fun _ => rfl⟩
theorem fr_10_0 : zcn 10 0 = true ∧ ∀ q, zto 10 0 q = 314 := ⟨rfl, fun _ => rfl⟩
theorem fr_10_1 : zcn 10 1 = true ∧ ∀ q, zto 10 1 q = 315 := ⟨rfl, fun _ => rfl⟩
theorem fr_10_2 : zcn 10 2 = true ∧ ∀ q, zto 10 2 q = 316 := ⟨rfl, fun _ => rfl⟩
theorem fr_10_3 : zcn 10 3 = true ∧ ∀ q, zto 10 3 q = 317 := ⟨rfl, fun _ => rfl⟩
theorem fr_10_15 : zcn 10 15 = true ∧ ∀ q, zto 10 15 q = 318 := ⟨rfl, fun _ => rfl⟩
theorem fr_10_20 : zcn 10 20 = true ∧ ∀ q, zto 10 20 q = 319 := ⟨rfl, fun _ => rfl⟩
theorem fr_10_21 : zcn 10 21 = true ∧ ∀ q, zto 10 21 q = 320 := ⟨rfl, fun _ => rfl⟩
theorem fr_10_22 : zcn 10 22 = true ∧ ∀ q, zto 10 22 q = 321 := ⟨rfl, fun _ => rfl⟩
theorem fr_10_25 : zcn 10 25 = true ∧ ∀ q, zto 10 25 q = 322 := ⟨rfl, fun _ => rfl⟩
theorem fr_10_26 : zcn 10 26 = true ∧ ∀ q, zto 10 26 q = 323 := ⟨rfl, fun _ => rfl⟩
theorem fr_10_27 : zcn 10 27 = true ∧ ∀ q, zto 10 27 q = 324 := ⟨rfl, fun _ => rfl⟩
theorem fr_10_28 : zcn 10 28 = true ∧ ∀ q, zto 10 28 q = 325 := ⟨rfl, fun _ => rfl⟩
theorem fr_10_29 : zcn 10 29 = true ∧ ∀ q, zto 10 29 q = 326 := ⟨rfl, fun _ => rfl⟩
theorem fr_10_30 : zcn 10 30 = true ∧ ∀ q, zto 10 30 q = 327 := ⟨rfl, fun _ => rfl⟩
theorem fr_10_31 : zcn 10 31 = true ∧ ∀ q, zto 10 31 q = 328 := ⟨rfl, fun _ => rfl⟩
theorem fr_10_33 : zcn 10 33 = true ∧ ∀ q, zto 10 33 q = 329 := ⟨rfl, fun _ => rfl⟩
theorem fr_10_34 : zcn 10 34 = true ∧ ∀ q, zto 10 34 q = 330 := ⟨rfl, fun _ => rfl⟩
theorem fr_10_35 : zcn 10 35 = true ∧ ∀ q, zto 10 35 q = 331 := ⟨rfl, fun _ => rfl⟩
theorem fr_10_36 : zcn 10 36 = true ∧ ∀ q, zto 10 36 q = 332 := ⟨rfl, fun _ => rfl⟩
section YS
variable {g : GG} {d d2 : Nat} {M Y : MM} {pc : Nat} {lv : List (Nat × Value)} {st As stk : List Value} {ν ν2 : Nm} {F : FF} {q ci j idx np : Nat} {fty : FieldType} {fin : Bool}
theorem y_getI (hd : decode (mB M) pc = .ok (.getfield idx, 3)) (hq : zk 333 q (ci, 0)) (hl : zfl (mO M) idx ci j 0 fty fin) (k : Z g d (0, 0) M 333 0 0 (pc + 3) lv (.int (gi ν q j) :: st) (zem ν) F) : Z g d (0, 0) M 333 0 0 pc lv (.ref q :: st) (zem ν) F := z_getI hd hq hl k
theorem y_getL (hd : decode (mB M) pc = .ok (.getfield idx, 3)) (hq : zk 333 q (ci, 0)) (hl : zfl (mO M) idx ci j 1 fty fin) (k : Z g d (0, 0) M 333 0 0 (pc + 3) lv (.long (gl ν q j) :: st) (zem ν) F) : Z g d (0, 0) M 333 0 0 pc lv (.ref q :: st) (zem ν) F := z_getL hd hq hl k
theorem y_getR {r : Nat} (hd : decode (mB M) pc = .ok (.getfield idx, 3)) (hq : zk 333 q (ci, 0)) (hl : zfl (mO M) idx ci j 2 fty fin) (hcn : zcn ci j = true) (hr : zto ci j q = r) (k : Z g d (0, 0) M 333 0 0 (pc + 3) lv (.ref r :: st) (zem ν) F) : Z g d (0, 0) M 333 0 0 pc lv (.ref q :: st) (zem ν) F := z_getR hd hq hl (by rw [← hr]; exact zrf_o hq (zcn_spec hcn).1 (zcn_spec hcn).2) k
theorem y_getT (hd : decode (mB M) pc = .ok (.getfield idx, 3)) (hq : zk 333 271 (2, 0)) (hl : zfl (mO M) idx 2 10 2 fty fin) (ht : zk 333 (gx ν) (7, 0)) (k : Z g d (0, 0) M 333 0 0 (pc + 3) lv (.ref (gx ν) :: st) (zem ν) F) : Z g d (0, 0) M 333 0 0 pc lv (.ref 271 :: st) (zem ν) F := z_getR hd hq hl (by show zrf ν.2.2 271 10 = some ν.2.2; unfold zrf; rw [if_pos ⟨rfl, rfl⟩]; exact if_neg (zkT_ne ht)) k
theorem y_putI {x : Int32} (hd : decode (mB M) pc = .ok (.putfield idx, 3)) (hq : zk 333 q (ci, 0)) (hl : zfl (mO M) idx ci j 0 fty false) (hn : narrow fty (.int x) = .int x ∧ fits fty (.int x) = true) (k : Z g d (0, 0) M 333 0 0 (pc + 3) lv st (zem (si ν q j x)) F) : Z g d (0, 0) M 333 0 0 pc lv (.int x :: .ref q :: st) (zem ν) F := z_putI hd hq hl hn k
theorem y_putL {x : Int64} (hd : decode (mB M) pc = .ok (.putfield idx, 3)) (hq : zk 333 q (ci, 0)) (hl : zfl (mO M) idx ci j 1 fty false) (hn : narrow fty (.long x) = .long x ∧ fits fty (.long x) = true) (k : Z g d (0, 0) M 333 0 0 (pc + 3) lv st (zem (sl ν q j x)) F) : Z g d (0, 0) M 333 0 0 pc lv (.long x :: .ref q :: st) (zem ν) F := z_putL hd hq hl hn k
theorem y_putT {t : Nat} (hd : decode (mB M) pc = .ok (.putfield idx, 3)) (hq : zk 333 271 (2, 0)) (hl : zfl (mO M) idx 2 10 2 fty false) (ht : zk 333 t (7, 0)) (hn : ∀ a, narrow fty (.ref a) = .ref a ∧ fits fty (.ref a) = true) (k : Z g d (0, 0) M 333 0 0 (pc + 3) lv st (zem (sx ν t)) F) : Z g d (0, 0) M 333 0 0 pc lv (.ref t :: .ref 271 :: st) (zem ν) F := z_putR hd hq hl hn (by rw [zem_sx ν (zkT_ne ht)]; exact k)
theorem y_iald {i : Int32} {L0 jj : Nat} (hd : decode (mB M) pc = .ok (.iaload, 1)) (hq : zk 333 q (20, L0)) (hi : inb i L0 = true) (hj : i.toNatClampNeg = jj) (k : Z g d (0, 0) M 333 0 0 (pc + 1) lv (.int (gi ν q jj) :: st) (zem ν) F) : Z g d (0, 0) M 333 0 0 pc lv (.int i :: .ref q :: st) (zem ν) F := z_iald hd hq (inb_vp hi) (by rw [hj]; exact k)
theorem y_lald {i : Int32} {L0 jj : Nat} (hd : decode (mB M) pc = .ok (.laload, 1)) (hq : zk 333 q (21, L0)) (hi : inb i L0 = true) (hj : i.toNatClampNeg = jj) (k : Z g d (0, 0) M 333 0 0 (pc + 1) lv (.long (gl ν q jj) :: st) (zem ν) F) : Z g d (0, 0) M 333 0 0 pc lv (.int i :: .ref q :: st) (zem ν) F := z_lald hd hq (inb_vp hi) (by rw [hj]; exact k)
theorem y_zald {i : Int32} {L0 jj : Nat} (hd : decode (mB M) pc = .ok (.baload, 1)) (hq : zk 333 q (22, L0)) (hi : inb i L0 = true) (hj : i.toNatClampNeg = jj) (k : Z g d (0, 0) M 333 0 0 (pc + 1) lv (.int (gi ν q jj) :: st) (zem ν) F) : Z g d (0, 0) M 333 0 0 pc lv (.int i :: .ref q :: st) (zem ν) F := z_zald hd hq (inb_vp hi) (by rw [hj]; exact k)
theorem y_iast {i x : Int32} {L0 jj : Nat} (hd : decode (mB M) pc = .ok (.iastore, 1)) (hq : zk 333 q (20, L0)) (hi : inb i L0 = true) (hj : i.toNatClampNeg = jj) (k : Z g d (0, 0) M 333 0 0 (pc + 1) lv st (zem (si ν q jj x)) F) : Z g d (0, 0) M 333 0 0 pc lv (.int x :: .int i :: .ref q :: st) (zem ν) F := z_iast hd hq (inb_vp hi) (by rw [hj]; exact k)
theorem y_last {i : Int32} {x : Int64} {L0 jj : Nat} (hd : decode (mB M) pc = .ok (.lastore, 1)) (hq : zk 333 q (21, L0)) (hi : inb i L0 = true) (hj : i.toNatClampNeg = jj) (k : Z g d (0, 0) M 333 0 0 (pc + 1) lv st (zem (sl ν q jj x)) F) : Z g d (0, 0) M 333 0 0 pc lv (.long x :: .int i :: .ref q :: st) (zem ν) F := z_last hd hq (inb_vp hi) (by rw [hj]; exact k)
theorem y_zast {i x : Int32} {L0 jj : Nat} (hd : decode (mB M) pc = .ok (.bastore, 1)) (hq : zk 333 q (22, L0)) (hi : inb i L0 = true) (hj : i.toNatClampNeg = jj) (hx : vp_nar .boolean x = x) (k : Z g d (0, 0) M 333 0 0 (pc + 1) lv st (zem (si ν q jj x)) F) : Z g d (0, 0) M 333 0 0 pc lv (.int x :: .int i :: .ref q :: st) (zem ν) F := z_zast hd hq (inb_vp hi) (by rw [hx, hj]; exact k)
theorem y_aaldP {i : Int32} (hd : decode (mB M) pc = .ok (.aaload, 1)) (hq : zk 333 q (23, 30)) (hi : inb i 30 = true) (k : Z g d (0, 0) M 333 0 0 (pc + 1) lv (.ref (q + 1 + 4 * i.toNatClampNeg) :: st) (zem ν) F) : Z g d (0, 0) M 333 0 0 pc lv (.int i :: .ref q :: st) (zem ν) F := z_aaldP hd hq (inb_vp hi) (by show zrf ν.2.2 q _ = _; unfold zrf; rw [hq.2, if_neg (by rintro ⟨e, -⟩; subst e; exact absurd hq.2 (by decide +kernel)), if_pos rfl]) k
theorem y_aaldT {i : Int32} (hd : decode (mB M) pc = .ok (.aaload, 1)) (hq : zk 333 q (24, 4)) (hi : inb i 4 = true) (k : Z g d (0, 0) M 333 0 0 (pc + 1) lv (.ref (285 + 7 * i.toNatClampNeg) :: st) (zem ν) F) : Z g d (0, 0) M 333 0 0 pc lv (.int i :: .ref q :: st) (zem ν) F := z_aaldT hd hq (inb_vp hi) (by show zrf ν.2.2 q _ = _; unfold zrf; rw [hq.2, if_neg (by rintro ⟨e, -⟩; subst e; exact absurd hq.2 (by decide +kernel)), if_neg (by decide), if_pos rfl]) k
theorem y_copy {a b L0 L1 : Nat} {sp dp k : Int32} (hd : decode (mB M) pc = .ok (.invokestatic idx, 3)) (hw : Cond.methodLink (mO M) idx arraycopyName ∈ zTb ∧ Cond.native arraycopyName ∈ zTb ∧ Cond.static arraycopyName ∈ zTb ∧ Cond.initialized "java/lang/System" ∈ zTb) (ha : zk 333 a (20, L0)) (hb : zk 333 b (20, L1)) (h : ¬ sp < 0 ∧ ¬ dp < 0 ∧ ¬ k < 0 ∧ sp.toNatClampNeg + k.toNatClampNeg ≤ L0 ∧ dp.toNatClampNeg + k.toNatClampNeg ≤ L1) (hdd : 1 ≤ d) (hW : (st.map fun v => v.category).sum ≤ 8) {sp1 dp1 k1 : Nat} (e1 : sp.toNatClampNeg = sp1) (e2 : dp.toNatClampNeg = dp1) (e3 : k.toNatClampNeg = k1) (kk : Z g d (0, 0) M 333 0 0 (pc + 3) lv st (zem (scp ν a sp1 b dp1 k1)) F) : Z g d (0, 0) M 333 0 0 pc lv (.int k :: .int dp :: .ref b :: .int sp :: .ref a :: st) (zem ν) F := z_copy hd hw ha hb h hdd hW (by rw [e1, e2, e3]; exact kk)
theorem y_Vi {v : Int32} (hd : decode (mB M) pc = .ok (.invokevirtual idx, 3)) (hw : Cond.methodLink (mO M) idx Y.1 ∈ zTb) (hY : zcV Y ci np) (hq : zk 333 q (ci, 0)) {μ μ2 : Mm} (hC : Ct g d2 Y (.ref q :: As) μ (some (.int v), μ2)) (hdd : d2 + 1 ≤ d) (hn : As.length = np) (hs : As.reverse ++ .ref q :: st = stk) (hW : (st.map fun v => v.category).sum ≤ 8) (k : Z g d (0, 0) M 333 0 0 (pc + 3) lv (.int v :: st) μ2 F) : Z g d (0, 0) M 333 0 0 pc lv stk μ F := z_callV hd hw hY hq hC hdd hn hs hW k
theorem y_Vl {v : Int64} (hd : decode (mB M) pc = .ok (.invokevirtual idx, 3)) (hw : Cond.methodLink (mO M) idx Y.1 ∈ zTb) (hY : zcV Y ci np) (hq : zk 333 q (ci, 0)) {μ μ2 : Mm} (hC : Ct g d2 Y (.ref q :: As) μ (some (.long v), μ2)) (hdd : d2 + 1 ≤ d) (hn : As.length = np) (hs : As.reverse ++ .ref q :: st = stk) (hW : (st.map fun v => v.category).sum ≤ 8) (k : Z g d (0, 0) M 333 0 0 (pc + 3) lv (.long v :: st) μ2 F) : Z g d (0, 0) M 333 0 0 pc lv stk μ F := z_callV hd hw hY hq hC hdd hn hs hW k
theorem y_Vv  (hd : decode (mB M) pc = .ok (.invokevirtual idx, 3)) (hw : Cond.methodLink (mO M) idx Y.1 ∈ zTb) (hY : zcV Y ci np) (hq : zk 333 q (ci, 0)) {μ μ2 : Mm} (hC : Ct g d2 Y (.ref q :: As) μ (none, μ2)) (hdd : d2 + 1 ≤ d) (hn : As.length = np) (hs : As.reverse ++ .ref q :: st = stk) (hW : (st.map fun v => v.category).sum ≤ 8) (k : Z g d (0, 0) M 333 0 0 (pc + 3) lv st μ2 F) : Z g d (0, 0) M 333 0 0 pc lv stk μ F := z_callV hd hw hY hq hC hdd hn hs hW k
theorem y_Si {v : Int32} (hd : decode (mB M) pc = .ok (.invokestatic idx, 3)) (hw : Cond.methodLink (mO M) idx Y.1 ∈ zTb) (hY : zcS Y np) {μ μ2 : Mm} (hC : Ct g d2 Y As μ (some (.int v), μ2)) (hdd : d2 + 1 ≤ d) (hn : As.length = np) (hs : As.reverse ++ st = stk) (hW : (st.map fun v => v.category).sum ≤ 8) (k : Z g d (0, 0) M 333 0 0 (pc + 3) lv (.int v :: st) μ2 F) : Z g d (0, 0) M 333 0 0 pc lv stk μ F := z_callS hd hw hY hC hdd hn hs hW k
theorem y_Sl {v : Int64} (hd : decode (mB M) pc = .ok (.invokestatic idx, 3)) (hw : Cond.methodLink (mO M) idx Y.1 ∈ zTb) (hY : zcS Y np) {μ μ2 : Mm} (hC : Ct g d2 Y As μ (some (.long v), μ2)) (hdd : d2 + 1 ≤ d) (hn : As.length = np) (hs : As.reverse ++ st = stk) (hW : (st.map fun v => v.category).sum ≤ 8) (k : Z g d (0, 0) M 333 0 0 (pc + 3) lv (.long v :: st) μ2 F) : Z g d (0, 0) M 333 0 0 pc lv stk μ F := z_callS hd hw hY hC hdd hn hs hW k
theorem y_Sv  (hd : decode (mB M) pc = .ok (.invokestatic idx, 3)) (hw : Cond.methodLink (mO M) idx Y.1 ∈ zTb) (hY : zcS Y np) {μ μ2 : Mm} (hC : Ct g d2 Y As μ (none, μ2)) (hdd : d2 + 1 ≤ d) (hn : As.length = np) (hs : As.reverse ++ st = stk) (hW : (st.map fun v => v.category).sum ≤ 8) (k : Z g d (0, 0) M 333 0 0 (pc + 3) lv st μ2 F) : Z g d (0, 0) M 333 0 0 pc lv stk μ F := z_callS hd hw hY hC hdd hn hs hW k
theorem y_Ni {v : Int32} (hd : decode (mB M) pc = .ok (.invokestatic idx, 3)) (hw : (mO M, idx, Y.1) ∈ zNm) (hY : zcS Y np) {μ μ2 : Mm} (hC : Ct g d2 Y As μ (some (.int v), μ2)) (hdd : d2 + 1 ≤ d) (hn : As.length = np) (hs : As.reverse ++ st = stk) (hW : (st.map fun v => v.category).sum ≤ 8) (k : Z g d (0, 0) M 333 0 0 (pc + 3) lv (.int v :: st) μ2 F) : Z g d (0, 0) M 333 0 0 pc lv stk μ F := z_callSN hd hw hY hC hdd hn hs hW k
theorem y_Nl {v : Int64} (hd : decode (mB M) pc = .ok (.invokestatic idx, 3)) (hw : (mO M, idx, Y.1) ∈ zNm) (hY : zcS Y np) {μ μ2 : Mm} (hC : Ct g d2 Y As μ (some (.long v), μ2)) (hdd : d2 + 1 ≤ d) (hn : As.length = np) (hs : As.reverse ++ st = stk) (hW : (st.map fun v => v.category).sum ≤ 8) (k : Z g d (0, 0) M 333 0 0 (pc + 3) lv (.long v :: st) μ2 F) : Z g d (0, 0) M 333 0 0 pc lv stk μ F := z_callSN hd hw hY hC hdd hn hs hW k
theorem y_Nv  (hd : decode (mB M) pc = .ok (.invokestatic idx, 3)) (hw : (mO M, idx, Y.1) ∈ zNm) (hY : zcS Y np) {μ μ2 : Mm} (hC : Ct g d2 Y As μ (none, μ2)) (hdd : d2 + 1 ≤ d) (hn : As.length = np) (hs : As.reverse ++ st = stk) (hW : (st.map fun v => v.category).sum ≤ 8) (k : Z g d (0, 0) M 333 0 0 (pc + 3) lv st μ2 F) : Z g d (0, 0) M 333 0 0 pc lv stk μ F := z_callSN hd hw hY hC hdd hn hs hW k
theorem y_mmax {μ : Mm} {x y : Int32} (hd : decode (mB M) pc = .ok (.invokestatic idx, 3)) (hw : Cond.methodLink (mO M) idx Lib.Math.max.name ∈ zTb) (hm : zmw Lib.Math.max.name Lib.Math.max.code 2 (some .int)) (hdd : 1 ≤ d) (hW : (st.map fun v => v.category).sum ≤ 8) (k : Z g d (0, 0) M 333 0 0 (pc + 3) lv (.int (imax x y) :: st) μ F) : Z g d (0, 0) M 333 0 0 pc lv (.int y :: .int x :: st) μ F := by
  intro p e s m args below meth c R H locs ls C Rl S L
  have hts := C.2.2.2.2.2.1
  have hfr := C.2.2.2.2.2.2.2.2.2
  refine va_mmax C.1 C.2.1 (C.2.2.2.1.trans L.1.symm) C.2.2.2.2.1 (hts _ hw) (hts _ hm.1) (hts _ hm.2.1) (hts _ hm.2.2) (Nat.le_trans hdd hfr.1) ?_ (Nat.zero_le _) (Nat.zero_le _) hd (k p e s m args below meth c R H locs ls C Rl S L)
  show ((zv g st).map fun v => v.category).sum + _ ≤ _
  rw [zcat]
  have := hfr.2.1
  omega
theorem y_mmin {μ : Mm} {x y : Int32} (hd : decode (mB M) pc = .ok (.invokestatic idx, 3)) (hw : Cond.methodLink (mO M) idx Lib.Math.min.name ∈ zTb) (hm : zmw Lib.Math.min.name Lib.Math.min.code 2 (some .int)) (hdd : 1 ≤ d) (hW : (st.map fun v => v.category).sum ≤ 8) (k : Z g d (0, 0) M 333 0 0 (pc + 3) lv (.int (imin x y) :: st) μ F) : Z g d (0, 0) M 333 0 0 pc lv (.int y :: .int x :: st) μ F := by
  intro p e s m args below meth c R H locs ls C Rl S L
  have hts := C.2.2.2.2.2.1
  have hfr := C.2.2.2.2.2.2.2.2.2
  refine va_mmin C.1 C.2.1 (C.2.2.2.1.trans L.1.symm) C.2.2.2.2.1 (hts _ hw) (hts _ hm.1) (hts _ hm.2.1) (hts _ hm.2.2) (Nat.le_trans hdd hfr.1) ?_ (Nat.zero_le _) (Nat.zero_le _) hd (k p e s m args below meth c R H locs ls C Rl S L)
  show ((zv g st).map fun v => v.category).sum + _ ≤ _
  rw [zcat]
  have := hfr.2.1
  omega
theorem y_lmax {μ : Mm} {x y : Int64} (hd : decode (mB M) pc = .ok (.invokestatic idx, 3)) (hw : Cond.methodLink (mO M) idx Lib.MathLoose.max_long.x ∈ zTb) (hm : zmw Lib.MathLoose.max_long.x Lib.MathLoose.max_long.code 4 (some .long)) (hdd : 1 ≤ d) (hW : (st.map fun v => v.category).sum ≤ 8) (k : Z g d (0, 0) M 333 0 0 (pc + 3) lv (.long (lmax x y) :: st) μ F) : Z g d (0, 0) M 333 0 0 pc lv (.long y :: .long x :: st) μ F := by
  intro p e s m args below meth c R H locs ls C Rl S L
  have hts := C.2.2.2.2.2.1
  have hfr := C.2.2.2.2.2.2.2.2.2
  refine va_mmax_long C.1 C.2.1 (C.2.2.2.1.trans L.1.symm) C.2.2.2.2.1 (hts _ hw) (hts _ hm.1) (hts _ hm.2.1) (hts _ hm.2.2) (Nat.le_trans hdd hfr.1) ?_ (Nat.zero_le _) (Nat.zero_le _) hd (k p e s m args below meth c R H locs ls C Rl S L)
  show ((zv g st).map fun v => v.category).sum + _ ≤ _
  rw [zcat]
  have := hfr.2.1
  omega
theorem y_lmin {μ : Mm} {x y : Int64} (hd : decode (mB M) pc = .ok (.invokestatic idx, 3)) (hw : Cond.methodLink (mO M) idx Lib.MathLoose.min_long.x ∈ zTb) (hm : zmw Lib.MathLoose.min_long.x Lib.MathLoose.min_long.code 4 (some .long)) (hdd : 1 ≤ d) (hW : (st.map fun v => v.category).sum ≤ 8) (k : Z g d (0, 0) M 333 0 0 (pc + 3) lv (.long (lmin x y) :: st) μ F) : Z g d (0, 0) M 333 0 0 pc lv (.long y :: .long x :: st) μ F := by
  intro p e s m args below meth c R H locs ls C Rl S L
  have hts := C.2.2.2.2.2.1
  have hfr := C.2.2.2.2.2.2.2.2.2
  refine va_mmin_long C.1 C.2.1 (C.2.2.2.1.trans L.1.symm) C.2.2.2.2.1 (hts _ hw) (hts _ hm.1) (hts _ hm.2.1) (hts _ hm.2.2) (Nat.le_trans hdd hfr.1) ?_ (Nat.zero_le _) (Nat.zero_le _) hd (k p e s m args below meth c R H locs ls C Rl S L)
  show ((zv g st).map fun v => v.category).sum + _ ≤ _
  rw [zcat]
  have := hfr.2.1
  omega
theorem y_labs {μ : Mm} {x : Int64} (hd : decode (mB M) pc = .ok (.invokestatic idx, 3)) (hw : Cond.methodLink (mO M) idx Lib.MathLoose.abs_long.x ∈ zTb) (hm : zmw Lib.MathLoose.abs_long.x Lib.MathLoose.abs_long.code 2 (some .long)) (hdd : 1 ≤ d) (hW : (st.map fun v => v.category).sum ≤ 8) (k : Z g d (0, 0) M 333 0 0 (pc + 3) lv (.long (labs x) :: st) μ F) : Z g d (0, 0) M 333 0 0 pc lv (.long x :: st) μ F := by
  intro p e s m args below meth c R H locs ls C Rl S L
  have hts := C.2.2.2.2.2.1
  have hfr := C.2.2.2.2.2.2.2.2.2
  refine va_mabs_long C.1 C.2.1 (C.2.2.2.1.trans L.1.symm) C.2.2.2.2.1 (hts _ hw) (hts _ hm.1) (hts _ hm.2.1) (hts _ hm.2.2) (Nat.le_trans hdd hfr.1) ?_ (Nat.zero_le _) (Nat.zero_le _) hd (k p e s m args below meth c R H locs ls C Rl S L)
  show ((zv g st).map fun v => v.category).sum + _ ≤ _
  rw [zcat]
  have := hfr.2.1
  omega
/-- a switch: the number is one of the row's -/
theorem y_sw {μ : Mm} {dflt lo hi : Int} {offs : Array Int} {len : Nat} {x : Int32} {off : Int} (v : Int32) (z : Int) (tgt : Nat) (hd : decode (mB M) pc = .ok (.tableswitch dflt lo hi offs, len)) (hx : x = v) (hv : v.toInt = z) (h1 : lo ≤ z) (h2 : z ≤ hi) (ho : offs[(z - lo).toNat]? = some off) (ht : (pc : Int) + off = (tgt : Int)) (k : Z g d (0, 0) M 333 0 0 tgt lv st μ F) : Z g d (0, 0) M 333 0 0 pc lv (.int x :: st) μ F := by
  subst hx
  exact z_tableIn tgt hd (by rw [hv]; omega) (by rw [hv]; omega) (by rw [hv]; exact ho) ht k
theorem y_lk {μ : Mm} {dflt : Int} {ps : Array (Int × Int)} {len : Nat} {x : Int32} {off : Int} (v : Int32) (z : Int) (tgt : Nat) (hd : decode (mB M) pc = .ok (.lookupswitch dflt ps, len)) (hp : (ps.toList.zip (ps.toList.drop 1)).all (fun (a, next) => a.1 < next.1) = true) (hx : x = v) (hv : v.toInt = z) (ho : Op.lookupswitch.offset ps.toList dflt z = off) (ht : (pc : Int) + off = (tgt : Int)) (k : Z g d (0, 0) M 333 0 0 tgt lv st μ F) : Z g d (0, 0) M 333 0 0 pc lv (.int x :: st) μ F := by
  subst hx
  exact z_lookup tgt hd hp (by rw [hv]; exact ho) ht k
theorem zret_o {μ : Mm} {x : Int32} (hx : zbo x = true) (hd : decode (mB M) pc = .ok (.ireturn, 1)) (hr : mR M = some .boolean) : Z g d (0, 0) M 333 0 0 pc lv [.int x] μ (zF g (some (.int (b2i (x != 0))), μ)) := by
  have e := zbo_b2i hx
  have k : Z g d (0, 0) M 333 0 0 pc lv [.int (b2i (x != 0))] μ (zF g (some (.int (b2i (x != 0))), μ)) := z_zret hd hr (nar_b2i _)
  rw [e] at k ⊢
  exact k
theorem y_entry {μ : Mm} {r : Option Value × Mm} (hY : zin Y) (hA : (lg_sl As).length ≤ mL Y) (hl : lv_args 0 As = lv) (h : Z g d (0, 0) Y 333 0 0 0 lv [] μ (zF g r)) : Ct g d Y As μ r := z_entry hY hA (by rw [hl]; exact h)
end YS

/-! The class works out a law. -/
def nmV (a : Nat → Nat) (c s v : Nat) : Nat := if v = 0 then a 8 / 64 else if v = 1 then c else if v = 2 then a (12 + 2 * c) / 64 else if v = 3 then a (20 + 2 * c) else if v = 4 then a (21 + 2 * c) else if v = 5 then ebA a else s
def nE (a : Nat → Nat) (c s : Nat) : Nat → Int64 := fun v => lq (nmV a c s v)
def outF (a : Nat → Nat) (x : Int64) : Bool := decide (0 ≤ x.toInt ∧ x.toInt < a 0 ∧ a (12 + 2 * x.toInt.toNat) = 0)
theorem nI_lq {n : Nat} (h : n < 2 ^ 31) : (nI n).toInt64 = lq n := by
  apply Int64.toInt_inj.mp
  rw [Int32.toInt_toInt64, nI_toInt h, lq_int (by omega)]
theorem eb8 {a : Nat → Nat} (hw : WF a) : ebA a ≤ 8 := by
  have h0 := pc_le _ (show a (13 + 2 * 0) < 4 by have := (wbc hw (show 0 < 4 by omega)).2.1; omega)
  have h1 := pc_le _ (show a (13 + 2 * (0 + 1)) < 4 from Nat.lt_succ_of_le (wbc hw (show 1 < 4 by omega)).2.1)
  have h2 := pc_le _ (show a (13 + 2 * (0 + 1 + 1)) < 4 from Nat.lt_succ_of_le (wbc hw (show 2 < 4 by omega)).2.1)
  have h3 := pc_le _ (show a (13 + 2 * (0 + 1 + 1 + 1)) < 4 from Nat.lt_succ_of_le (wbc hw (show 3 < 4 by omega)).2.1)
  unfold ebA
  simp only [sm]
  omega
theorem nmV_le {a : Nat → Nat} (hw : WF a) {c s v : Nat} (hc : c < 4) (hs : s < 2) : nmV a c s v ≤ 9999 := by
  have hb := wb hw
  have hbc := wbc hw hc
  have h8 := eb8 hw
  unfold nmV
  repeat' split
  all_goals omega
theorem nE_rng {a : Nat → Nat} (hw : WF a) {c s v : Nat} (hc : c < 4) (hs : s < 2) : rng (nE a c s v) := lq_rng (by have := nmV_le hw (v := v) hc hs; omega)
/-- what the class looks at while it works a law out -/
def CE (a : Nat → Nat) (c s T law b e : Nat) (K : Nat → Nat × Nat) (ν0 ν : Nm) : Prop := C1 a ν0 ν ∧ gi ν 274 2 = nI c ∧ gi ν 274 3 = nI s ∧ (∀ i, b ≤ i → i < e → gi ν (T + 4) i = itm (K i)) ∧ gi ν (T + 6) law = nI e
theorem CE_up {a : Nat → Nat} {c s T law b e : Nat} {K : Nat → Nat × Nat} {ν0 ν : Nm} (hT : 285 ≤ T) (h : CE a c s T law b e K ν0 ν) (k : Nat) (v : Int32) : CE a c s T law b e K ν0 (si ν 275 k v) := by
  obtain ⟨h1, h2, h3, h4, h5⟩ := h
  refine ⟨⟨CX_keep h1.1 (fun q j _ _ => gi_si_q _ _ _ _ (by omega)), Fr_si h1.2 _ (Or.inr (Or.inr rfl))⟩, ?_, ?_, fun i i1 i2 => ?_, ?_⟩
  · rw [gi_si_q _ _ _ _ (by omega)]; exact h2
  · rw [gi_si_q _ _ _ _ (by omega)]; exact h3
  · rw [gi_si_q _ _ _ _ (by omega)]; exact h4 i i1 i2
  · rw [gi_si_q _ _ _ _ (by omega)]; exact h5
theorem neg_pos' {v : Nat} (h : v < 2 ^ 31) : -(nI v) ≤ 0 := by
  rw [Int32.le_iff_toInt_le, Int32.toInt_neg, nI_toInt h]
  show Int.bmod (-(v : Int)) (2 ^ 32) ≤ 0
  rw [Int.bmod_eq_of_le (by omega) (by omega)]
  omega
theorem neg_ne {v k : Nat} (h : v < 2 ^ 31) (hk : k < 2 ^ 31) (h0 : k ≠ 0) : ¬ -(nI v) = nI k := by
  intro e
  have := neg_pos' h
  rw [e, show (0 : Int32) = nI 0 from rfl, nI_le' hk (by omega)] at this
  omega
theorem c_num {ν : Nm} {v : Nat} (h : v ≤ 9999) : Su_takes (nI v) = some (nI 0) ∧ Su_leaf ν (nI v) = some (lq v) := by
  constructor
  · unfold Su_takes; rw [if_pos (neg_pos' (by omega))]; rfl
  · unfold Su_leaf
    rw [if_neg (show ¬ -(nI v) = (4 : Int32) from neg_ne (k := 4) (by omega) (by decide) (by decide)), if_neg (show ¬ -(nI v) = (5 : Int32) from neg_ne (k := 5) (by omega) (by decide) (by decide)), if_neg (show ¬ -(nI v) = (22 : Int32) from neg_ne (k := 22) (by omega) (by decide) (by decide)), if_neg (show ¬ -(nI v) = (23 : Int32) from neg_ne (k := 23) (by omega) (by decide) (by decide)), if_neg (show ¬ -(nI v) = (24 : Int32) from neg_ne (k := 24) (by omega) (by decide) (by decide)), if_neg (show ¬ -(nI v) = (25 : Int32) from neg_ne (k := 25) (by omega) (by decide) (by decide)), if_neg (show ¬ -(nI v) = (26 : Int32) from neg_ne (k := 26) (by omega) (by decide) (by decide)), nI_lq (by omega)]
theorem c_name {a : Nat → Nat} {c s T law b e : Nat} {K : Nat → Nat × Nat} {ν0 ν : Nm} (h : CE a c s T law b e K ν0 ν) (hw : WF a) (hc : c < 4) (hs : s < 2) {v : Nat} (hv : v < 7) : Su_takes (-(nI (nmK v))) = some (nI 0) ∧ Su_leaf ν (-(nI (nmK v))) = some (nE a c s v) := by
  obtain ⟨h1, h2, h3, -, -⟩ := h
  have hb := wb hw
  have hbc := wbc hw hc
  have h8 := eb8 hw
  constructor
  · have k : ∀ v, v < 7 → Su_takes (-(nI (nmK v))) = some (nI 0) := by decide +kernel
    exact k v hv
  · rcases (show v = 0 ∨ v = 1 ∨ v = 2 ∨ v = 3 ∨ v = 4 ∨ v = 5 ∨ v = 6 by omega) with rfl | rfl | rfl | rfl | rfl | rfl | rfl
    · show Su_leaf ν (-(nI 22)) = _
      unfold Su_leaf
      rw [Int32.neg_neg, if_neg (by decide), if_neg (by decide), if_pos (by decide), (cr h1).2.2.2.2.2.2.2.2.1, show (64 : Int32) = nI 64 from rfl, nI_div (by omega) (by omega), nI_lq (by omega)]
      rfl
    · show Su_leaf ν (-(nI 4)) = _
      unfold Su_leaf
      rw [Int32.neg_neg, if_pos (by decide), h2, nI_lq (by omega)]
      rfl
    · show Su_leaf ν (-(nI 23)) = _
      unfold Su_leaf
      rw [Int32.neg_neg, if_neg (by decide), if_neg (by decide), if_neg (by decide), if_pos (by decide), h2, inb_nI (by omega), nI_clamp (by omega), if_pos (decide_eq_true hc), cr_rest h1 hc, show (64 : Int32) = nI 64 from rfl, nI_div (by omega) (by omega), nI_lq (by omega)]
      rfl
    · show Su_leaf ν (-(nI 24)) = _
      unfold Su_leaf
      rw [Int32.neg_neg, if_neg (by decide), if_neg (by decide), if_neg (by decide), if_neg (by decide), if_pos (by decide), h2, inb_nI (by omega), nI_clamp (by omega), if_pos (decide_eq_true hc), cr_min h1 hc, nI_lq (by omega)]
      rfl
    · show Su_leaf ν (-(nI 5)) = _
      unfold Su_leaf
      rw [Int32.neg_neg, if_neg (by decide), if_pos (by decide), h2, inb_nI (by omega), nI_clamp (by omega), if_pos (decide_eq_true hc), cr_price h1 hc, nI_lq (by omega)]
      rfl
    · show Su_leaf ν (-(nI 25)) = _
      unfold Su_leaf
      rw [Int32.neg_neg, if_neg (by decide), if_neg (by decide), if_neg (by decide), if_neg (by decide), if_neg (by decide), if_pos (by decide), c_ends h1 hw, Option.bind_some, nI_lq (by omega)]
      rfl
    · show Su_leaf ν (-(nI 26)) = _
      unfold Su_leaf
      rw [Int32.neg_neg, if_neg (by decide), if_neg (by decide), if_neg (by decide), if_neg (by decide), if_neg (by decide), if_neg (by decide), if_pos (by decide), h3, nI_lq (by omega)]
      rfl
theorem lq0 : (0 : Int64) = lq 0 := rfl
theorem l0 : (0 : Int64).toInt = 0 := rfl
theorem b2l_out (b : Bool) : (if b2i b = 0 then some (0 : Int64) else some 1) = some (b2l b) := by cases b <;> rfl
theorem clip_b (b : Bool) : clipL (b2l b) = b2l b := clipL_id (b2l_rng b).1
theorem rng_nat {x : Int64} (h0 : 0 ≤ x.toInt) (h1 : x.toInt < 4) : x.toInt32 = nI x.toInt.toNat := by
  apply Int32.toInt_inj.mp
  rw [Int64.toInt_toInt32, nI_toInt (by omega), Int.bmod_eq_of_le (by omega) (by omega)]
  omega
theorem c_isOut {a : Nat → Nat} {ν0 ν : Nm} (h : C1 a ν0 ν) (hw : WF a) (x : Int64) : Su_isOut ν x = some (outF a x) := by
  have hb := wb hw
  unfold Su_isOut outF
  simp only [lg_lt, lg_ge, l0, (cr h).1, nI_lq (show a 0 < 2 ^ 31 by omega), lq_int (show a 0 < 2 ^ 63 by omega), show (4 : Int64).toInt = 4 from rfl]
  by_cases h1 : x.toInt < 0
  · rw [if_pos h1, decide_eq_false (by omega)]
  · rw [if_neg h1]
    by_cases h2 : (a 0 : Int) ≤ x.toInt
    · rw [if_pos h2, decide_eq_false (by omega)]
    · have hn : x.toInt.toNat < 4 := by omega
      have hbc := wbc hw hn
      rw [if_neg h2, if_pos (by omega), rng_nat (by omega) (by omega), inb_nI (by omega), nI_clamp (by omega), if_pos (decide_eq_true hn), cr_rest h hn]
      by_cases e : a (12 + 2 * x.toInt.toNat) = 0
      · rw [if_neg (by rw [e]; simp [nI]), decide_eq_true (by omega)]
      · rw [if_pos (by rw [show (0 : Int32) = nI 0 from rfl, nI_eq' (by omega) (by omega)]; exact e), decide_eq_false (by omega)]
theorem itm_neg {p : Nat × Nat} (h : 2 ≤ p.1) : -(itm p) = nI (opK p.1) := by
  unfold itm
  rw [if_neg (by omega), if_neg (by omega), Int32.neg_neg]
theorem itm_op {p : Nat × Nat} (h : 2 ≤ p.1) : itm p = -(nI (opK p.1)) := by
  unfold itm
  rw [if_neg (by omega), if_neg (by omega)]
theorem tk1 : ∀ o, o < 23 → (o = 2 ∨ o = 4 ∨ o = 5 ∨ o = 20) → Su_takes (-(nI (opK o))) = some (nI 1) := by decide +kernel
theorem tk2 : ∀ o, o < 23 → ((6 ≤ o ∧ o ≤ 15) ∨ o = 21 ∨ o = 22) → Su_takes (-(nI (opK o))) = some (nI 2) := by decide +kernel
theorem tk3 : Su_takes (-(nI (opK 3))) = some (nI 3) := by decide +kernel
theorem c_un {a : Nat → Nat} {ν0 ν : Nm} (h : C1 a ν0 ν) (hw : WF a) {o : Nat} (ho : o = 2 ∨ o = 4 ∨ o = 5 ∨ o = 20) {x : Int64} (hx : rng x) (y z : Int64) : ∃ r, Su_result ν (nI (opK o)) x y z = some r ∧ clipL r = unV (outF a) o x := by
  rcases ho with rfl | rfl | rfl | rfl
  · refine ⟨b2l (outF a x), ?_, clip_b _⟩
    unfold Su_result
    rw [if_neg (by decide), if_pos (by decide), c_isOut h hw, Option.bind_some, b2l_out]
  · refine ⟨twL x, ?_, clipL_id (twos_eq hx).2⟩
    unfold Su_result
    rw [if_pos (by decide)]; rfl
  · refine ⟨-x, ?_, clipL_id (rng_neg hx)⟩
    unfold Su_result
    rw [if_neg (by decide), if_neg (by decide), if_neg (by decide), if_neg (by decide), if_neg (by decide), if_neg (by decide), if_neg (by decide), if_pos (by decide)]
  · refine ⟨b2l (decide (x = 0)), ?_, clip_b _⟩
    unfold Su_result Su_holds
    rw [if_neg (by decide), if_neg (by decide), if_neg (by decide), if_neg (by decide), if_neg (by decide), if_neg (by decide), if_neg (by decide), if_neg (by decide), if_neg (by decide), if_neg (by decide), if_pos (by decide)]
    simp only [lg_eq]
    by_cases e : x = 0
    · rw [if_neg (by simp [e]), decide_eq_true e]; rfl
    · rw [if_pos e, decide_eq_false e]; rfl
theorem someb {p q : Prop} [Decidable p] [Decidable q] (h : q ↔ ¬ p) : (if p then some false else some true : Option Bool) = some (decide q) := by
  by_cases e : p
  · rw [if_pos e, decide_eq_false (fun z => h.mp z e)]
  · rw [if_neg e, decide_eq_true (h.mpr e)]
theorem c_hold {ν : Nm} {o : Nat} (ho : (10 ≤ o ∧ o ≤ 15) ∨ o = 21 ∨ o = 22) (x y z : Int64) : Su_result ν (nI (opK o)) x y z = some (biV o x y) := by
  have k : ∀ o, o < 23 → ((10 ≤ o ∧ o ≤ 15) ∨ o = 21 ∨ o = 22) → ¬ nI (opK o) = 13 ∧ ¬ nI (opK o) = 14 ∧ ¬ nI (opK o) = 15 ∧ ¬ nI (opK o) = 42 ∧ ¬ nI (opK o) = 43 ∧ ¬ nI (opK o) = 45 ∧ ¬ nI (opK o) = 47 ∧ ¬ nI (opK o) = 130 := by decide +kernel
  obtain ⟨k1, k2, k3, k4, k5, k6, k7, k8⟩ := k o (by omega) ho
  have key : ∀ b, Su_holds (nI (opK o)) x y = some b → biV o x y = b2l b → Su_result ν (nI (opK o)) x y z = some (biV o x y) := by
    intro b h1 h2
    unfold Su_result
    rw [if_neg k1, if_neg k2, if_neg k3, if_neg k4, if_neg k5, if_neg k6, if_neg k7, if_neg k8, h1, Option.bind_some, b2l_out, h2]
  rcases (show o = 10 ∨ o = 11 ∨ o = 12 ∨ o = 13 ∨ o = 14 ∨ o = 15 ∨ o = 21 ∨ o = 22 by omega) with rfl | rfl | rfl | rfl | rfl | rfl | rfl | rfl
  · refine key _ ?_ rfl
    unfold Su_holds
    rw [if_neg (by decide), if_neg (by decide), if_neg (by decide), if_neg (by decide), if_pos (by decide)]
    exact someb (by rw [lg_ge]; omega)
  · refine key _ ?_ rfl
    unfold Su_holds
    rw [if_neg (by decide), if_neg (by decide), if_neg (by decide), if_neg (by decide), if_neg (by decide), if_neg (by decide), if_neg (by decide), if_pos (by decide)]
    exact someb (by rw [lg_gt]; omega)
  · refine key _ ?_ rfl
    unfold Su_holds
    rw [if_neg (by decide), if_neg (by decide), if_neg (by decide), if_neg (by decide), if_neg (by decide), if_neg (by decide), if_pos (by decide)]
    exact someb (by rw [lg_le]; omega)
  · refine key _ ?_ rfl
    unfold Su_holds
    rw [if_neg (by decide), if_neg (by decide), if_neg (by decide), if_neg (by decide), if_neg (by decide), if_neg (by decide), if_neg (by decide), if_neg (by decide), if_pos (by decide)]
    exact someb (by rw [lg_lt]; omega)
  · refine key _ ?_ rfl
    unfold Su_holds
    rw [if_neg (by decide), if_neg (by decide), if_neg (by decide), if_neg (by decide), if_neg (by decide), if_pos (by decide)]
    exact someb (by rw [lg_eq]; exact Decidable.not_not.symm)
  · refine key _ ?_ rfl
    unfold Su_holds
    rw [if_neg (by decide), if_neg (by decide), if_neg (by decide), if_pos (by decide)]
    exact someb (by rw [lg_eq])
  · refine key _ ?_ rfl
    unfold Su_holds
    rw [if_neg (by decide), if_pos (by decide)]
    simp only [lg_eq]
    by_cases e : x = 0 <;> by_cases e2 : y = 0 <;> simp [e, e2]
  · refine key _ ?_ rfl
    unfold Su_holds
    rw [if_pos (by decide)]
    simp only [lg_eq]
    by_cases e : x = 0 <;> by_cases e2 : y = 0 <;> simp [e, e2]
theorem c_bi {ν : Nm} {o : Nat} (ho : (6 ≤ o ∧ o ≤ 15) ∨ o = 21 ∨ o = 22) (x y z : Int64) : ∃ r, Su_result ν (nI (opK o)) x y z = some r ∧ clipL r = biV o x y := by
  by_cases h : 10 ≤ o
  · exact ⟨_, c_hold (by omega) x y z, clipL_id biV_rng⟩
  · rcases (show o = 6 ∨ o = 7 ∨ o = 8 ∨ o = 9 by omega) with rfl | rfl | rfl | rfl
    · refine ⟨x + y, ?_, by unfold biV; rw [if_pos rfl]⟩
      unfold Su_result
      rw [if_neg (by decide), if_neg (by decide), if_neg (by decide), if_neg (by decide), if_pos (by decide)]
    · refine ⟨x - y, ?_, by unfold biV; rw [if_neg (by decide), if_pos rfl]⟩
      unfold Su_result
      rw [if_neg (by decide), if_neg (by decide), if_neg (by decide), if_neg (by decide), if_neg (by decide), if_pos (by decide)]
    · refine ⟨x * y, ?_, by unfold biV; rw [if_neg (by decide), if_neg (by decide), if_pos rfl]⟩
      unfold Su_result
      rw [if_neg (by decide), if_neg (by decide), if_neg (by decide), if_pos (by decide)]
    · refine ⟨if y = 0 then 0 else x / y, ?_, ?_⟩
      · unfold Su_result
        rw [if_neg (by decide), if_neg (by decide), if_neg (by decide), if_neg (by decide), if_neg (by decide), if_neg (by decide), if_pos (by decide)]
        simp only [lg_eq]
        by_cases e : y = 0
        · rw [if_neg (by simp [e]), if_pos e]
        · rw [if_pos e, if_neg e, if_neg e]
      · unfold biV
        rw [if_neg (show ¬ (9 : Nat) = 6 by decide), if_neg (show ¬ (9 : Nat) = 7 by decide), if_neg (show ¬ (9 : Nat) = 8 by decide), if_pos (show (9 : Nat) = 9 from rfl)]
        by_cases e : y = 0
        · rw [if_pos e, if_pos e]; exact clip_b false
        · rw [if_neg e, if_neg e]
theorem c_ter {ν : Nm} {x y z : Int64} (hy : rng y) (hz : rng z) : ∃ r, Su_result ν (nI (opK 3)) x y z = some r ∧ clipL r = if x = 0 then z else y := by
  refine ⟨if x = 0 then z else y, ?_, clipL_id (by split <;> assumption)⟩
  unfold Su_result
  rw [if_neg (by decide), if_neg (by decide), if_pos (by decide)]
  simp only [lg_eq]
  by_cases e : x = 0
  · rw [if_pos e, if_pos e]
  · rw [if_neg e, if_neg e]
/-- one item -/
theorem c_go {a : Nat → Nat} {c s T law b e : Nat} {K : Nat → Nat × Nat} {ν0 ν : Nm} (h : CE a c s T law b e K ν0 ν) (hl : law < 2) {i : Nat} (hb : b ≤ i) (he : i < e) (h300 : e ≤ 295) {n m : Nat} (hm : m ≤ 3) (hn : m ≤ n) (hn2 : n ≤ 295) (ht : Su_takes (itm (K i)) = some (nI m)) {r : Int64} (hr : m ≠ 0 → Su_result ν (-(itm (K i))) (gi ν 275 (n - m)).toInt64 (gi ν 275 (n - m + 1)).toInt64 (gi ν 275 (n - m + 2)).toInt64 = some r) (hr0 : m = 0 → Su_leaf ν (itm (K i)) = some r) (f : Nat) : Su_valueOf_38 (f + 1) T (nI law) (nI n) (nI i) ν = Su_valueOf_38 f T (nI law) (nI (n - m + 1)) (nI (i + 1)) (si ν 275 (n - m) (clipL r).toInt32) := by
  obtain ⟨h1, h2, h3, h4, h5⟩ := h
  rw [Su_valueOf_38, inb_nI (by omega), nI_clamp (by omega), if_pos (by simp; omega), h5, if_neg (by rw [nI_le' (by omega) (by omega)]; omega), if_neg (by rw [show (300 : Int32) = nI 300 from rfl, nI_le' (by omega) (by omega)]; omega), inb_nI (by omega), nI_clamp (by omega), if_pos (by simp; omega), h4 i hb he, ht, Option.bind_some, nI_sub hn, if_neg (nI_pos (by omega)), show (3 : Int32) = nI 3 from rfl, nI_add, if_pos (by rw [show (301 : Int32) = nI 301 from rfl, nI_le' (by omega) (by omega)]; omega)]
  have z : (nI m = 0) = (m = 0) := nI_eq' (b := 0) (by omega) (by decide)
  have fin : Su_valueOf_148 (Su_valueOf_38 f) T (nI law) (nI i) (nI (n - m)) r ν = Su_valueOf_38 f T (nI law) (nI (n - m + 1)) (nI (i + 1)) (si ν 275 (n - m) (clipL r).toInt32) := by
    unfold Su_valueOf_148
    rw [lim_eq, Option.bind_some, inb_nI (by omega), nI_clamp (by omega), if_pos (by simp; omega), show (1 : Int32) = nI 1 from rfl, nI_add, nI_add]
  by_cases e0 : m = 0
  · rw [if_neg (by rw [z]; simp [e0]), hr0 e0, Option.bind_some]
    exact fin
  · rw [if_pos (by rw [z]; exact e0), show (1 : Int32) = nI 1 from rfl, show (2 : Int32) = nI 2 from rfl, nI_add, nI_add, inb_nI (by omega), inb_nI (by omega), inb_nI (by omega), nI_clamp (by omega), nI_clamp (by omega), nI_clamp (by omega), if_pos (by simp; omega), if_pos (by simp; omega), if_pos (by simp; omega), hr e0, Option.bind_some]
    exact fin
theorem c_op {a : Nat → Nat} {c s T law b e : Nat} {K : Nat → Nat × Nat} {ν0 ν : Nm} (hT : 285 ≤ T) (h : CE a c s T law b e K ν0 ν) (hw : WF a) (hc : c < 4) (hs : s < 2) (hl : law < 2) {i : Nat} (hb : b ≤ i) (he : i < e) (h300 : e ≤ 295) {g : List (Bool × Int64)} (hg : GO g) (hn : g.length ≤ i) (hcs : CS g ν) {u : List Bool} (hty : tyE (K i) (g.map Prod.fst) = some u) (f : Nat) : ∃ ν2, Su_valueOf_38 (f + 1) T (nI law) (nI g.length) (nI i) ν = Su_valueOf_38 f T (nI law) (nI (opE (nE a c s) (outF a) (K i) g).length) (nI (i + 1)) ν2 ∧ CE a c s T law b e K ν0 ν2 ∧ CS (opE (nE a c s) (outF a) (K i) g) ν2 ∧ Fr (fun q _ => q = 275) ν ν2 := by
  have fr : ∀ k v, Fr (fun q _ => q = 275) ν (si ν 275 k v) := fun k v => Fr_si (Fr_rfl _ _) _ rfl
  have bin : ∀ b1 b2 r, ((6 ≤ (K i).1 ∧ (K i).1 ≤ 15) ∨ (K i).1 = 21 ∨ (K i).1 = 22) → g.map Prod.fst = b1 :: b2 :: r → ∃ ν2, Su_valueOf_38 (f + 1) T (nI law) (nI g.length) (nI i) ν = Su_valueOf_38 f T (nI law) (nI (opE (nE a c s) (outF a) (K i) g).length) (nI (i + 1)) ν2 ∧ CE a c s T law b e K ν0 ν2 ∧ CS (opE (nE a c s) (outF a) (K i) g) ν2 ∧ Fr (fun q _ => q = 275) ν ν2 := by
    intro b1 b2 r h1 h2
    obtain ⟨y, g1, rfl, e1⟩ := gmap1 h2
    obtain ⟨x, g2, rfl, e2⟩ := gmap1 e1
    unfold opE
    rw [if_neg (by omega), if_neg (by omega), if_neg (by omega), if_neg (by omega)]
    obtain ⟨s1, s2, s3⟩ := hcs
    simp only [List.length_cons] at s1 s2 hn ⊢
    have ry := (hg (b1, y) (by simp)).1
    have rx := (hg (b2, x) (by simp)).1
    obtain ⟨r, q1, q2⟩ := c_bi (ν := ν) (o := (K i).1) (by omega) x y (gi ν 275 (g2.length + 1 + 1 - 2 + 2)).toInt64
    have st := c_go h hl hb he h300 (n := g2.length + 1 + 1) (m := 2) (by omega) (by omega) (by omega) (by rw [itm_op (by omega)]; exact tk2 _ (by omega) (by omega)) (r := r) (fun _ => by
      rw [itm_neg (by omega), ← q1, show g2.length + 1 + 1 - 2 = g2.length by omega, s1, s2, rng_rt rx, rng_rt ry]) (fun z => by omega) f
    rw [q2, show g2.length + 1 + 1 - 2 = g2.length by omega] at st
    exact ⟨_, st, CE_up hT h _ _, ⟨gi_si_s _ _ _ _, CS_up _ s3 (Nat.le_refl _)⟩, fr _ _⟩
  rcases ty_cases hty with ⟨h1, h2, rfl⟩ | ⟨h1, h2, rfl⟩ | ⟨h1, r, h2, rfl⟩ | ⟨h1, r, h2, rfl⟩ | ⟨h1, r, h2, rfl⟩ | ⟨h1, r, h2, rfl⟩ | ⟨h1, r, h2, rfl⟩ | ⟨h1, r, h2, rfl⟩
  · have ei : itm (K i) = nI (K i).2 := by unfold itm; rw [if_pos h1]
    obtain ⟨k1, k2⟩ := c_num (ν := ν) h2
    unfold opE
    rw [if_pos h1]
    have st := c_go h hl hb he h300 (n := g.length) (m := 0) (by omega) (by omega) (by omega) (by rw [ei]; exact k1) (r := lq (K i).2) (fun z => absurd rfl z) (fun _ => by rw [ei]; exact k2) f
    rw [clipL_id (lq_rng (by omega))] at st
    exact ⟨_, st, CE_up hT h _ _, ⟨gi_si_s _ _ _ _, CS_up _ hcs (Nat.le_refl _)⟩, fr _ _⟩
  · have ei : itm (K i) = -(nI (nmK (K i).2)) := by unfold itm; rw [if_neg (by omega), if_pos h1]
    obtain ⟨k1, k2⟩ := c_name h hw hc hs h2
    unfold opE
    rw [if_neg (by omega), if_pos h1]
    have st := c_go h hl hb he h300 (n := g.length) (m := 0) (by omega) (by omega) (by omega) (by rw [ei]; exact k1) (r := nE a c s (K i).2) (fun z => absurd rfl z) (fun _ => by rw [ei]; exact k2) f
    rw [clipL_id (nE_rng hw hc hs)] at st
    exact ⟨_, st, CE_up hT h _ _, ⟨gi_si_s _ _ _ _, CS_up _ hcs (Nat.le_refl _)⟩, fr _ _⟩
  · obtain ⟨z, g1, rfl, e1⟩ := gmap1 h2
    obtain ⟨y, g2, rfl, e2⟩ := gmap1 e1
    obtain ⟨x, g3, rfl, e3⟩ := gmap1 e2
    unfold opE
    rw [if_neg (by omega), if_neg (by omega), if_pos h1]
    obtain ⟨s1, s2, s3, s4⟩ := hcs
    simp only [List.length_cons] at s1 s2 hn ⊢
    have rz := (hg (true, z) (by simp)).1
    have ry := (hg (true, y) (by simp)).1
    have rx := (hg (false, x) (by simp)).1
    obtain ⟨r, q1, q2⟩ := c_ter (ν := ν) (x := x) ry rz
    have st := c_go h hl hb he h300 (n := g3.length + 1 + 1 + 1) (m := 3) (by omega) (by omega) (by omega) (by rw [itm_op (by omega), h1]; exact tk3) (r := r) (fun _ => by
      rw [itm_neg (by omega), h1, show g3.length + 1 + 1 + 1 - 3 = g3.length by omega, s1, s2, s3, rng_rt rz, rng_rt ry, rng_rt rx]; exact q1) (fun z => by omega) f
    rw [q2, show g3.length + 1 + 1 + 1 - 3 = g3.length by omega] at st
    exact ⟨_, st, CE_up hT h _ _, ⟨gi_si_s _ _ _ _, CS_up _ s4 (Nat.le_refl _)⟩, fr _ _⟩
  · obtain ⟨x, g1, rfl, e1⟩ := gmap1 h2
    unfold opE
    rw [if_neg (by omega), if_neg (by omega), if_neg (by omega), if_pos (by omega)]
    obtain ⟨s1, s2⟩ := hcs
    simp only [List.length_cons] at s1 hn ⊢
    have rx := (hg (true, x) (by simp)).1
    obtain ⟨r, q1, q2⟩ := c_un h.1 hw (o := (K i).1) (by omega) rx (gi ν 275 (g1.length + 1 - 1 + 1)).toInt64 (gi ν 275 (g1.length + 1 - 1 + 2)).toInt64
    have st := c_go h hl hb he h300 (n := g1.length + 1) (m := 1) (by omega) (by omega) (by omega) (by rw [itm_op (by omega)]; exact tk1 _ (by omega) (by omega)) (r := r) (fun _ => by
      rw [itm_neg (by omega), ← q1, show g1.length + 1 - 1 = g1.length by omega, s1, rng_rt rx]) (fun z => by omega) f
    rw [q2, show g1.length + 1 - 1 = g1.length by omega] at st
    exact ⟨_, st, CE_up hT h _ _, ⟨gi_si_s _ _ _ _, CS_up _ s2 (Nat.le_refl _)⟩, fr _ _⟩
  · exact bin _ _ r (by omega) h2
  · exact bin _ _ r (by omega) h2
  · obtain ⟨x, g1, rfl, e1⟩ := gmap1 h2
    unfold opE
    rw [if_neg (by omega), if_neg (by omega), if_neg (by omega), if_pos (by omega)]
    obtain ⟨s1, s2⟩ := hcs
    simp only [List.length_cons] at s1 hn ⊢
    have rx := (hg (false, x) (by simp)).1
    obtain ⟨r, q1, q2⟩ := c_un h.1 hw (o := (K i).1) (by omega) rx (gi ν 275 (g1.length + 1 - 1 + 1)).toInt64 (gi ν 275 (g1.length + 1 - 1 + 2)).toInt64
    have st := c_go h hl hb he h300 (n := g1.length + 1) (m := 1) (by omega) (by omega) (by omega) (by rw [itm_op (by omega)]; exact tk1 _ (by omega) (by omega)) (r := r) (fun _ => by
      rw [itm_neg (by omega), ← q1, show g1.length + 1 - 1 = g1.length by omega, s1, rng_rt rx]) (fun z => by omega) f
    rw [q2, show g1.length + 1 - 1 = g1.length by omega] at st
    exact ⟨_, st, CE_up hT h _ _, ⟨gi_si_s _ _ _ _, CS_up _ s2 (Nat.le_refl _)⟩, fr _ _⟩
  · exact bin _ _ r (by omega) h2
theorem c_eval {a : Nat → Nat} {c s T law b e : Nat} {K : Nat → Nat × Nat} {ν0 : Nm} (hT : 285 ≤ T) (hw : WF a) (hc : c < 4) (hs : s < 2) (hl : law < 2) (h300 : e ≤ 295) : ∀ (k f i : Nat) (g : List (Bool × Int64)) (ν : Nm), i + k = e → b ≤ i → k < f → CE a c s T law b e K ν0 ν → GO g → g.length ≤ i → CS g ν → tyR K k i (g.map Prod.fst) = some [true] → ∃ v ν2, Su_valueOf_38 f T (nI law) (nI g.length) (nI i) ν = some (v.toInt32, ν2) ∧ evR (nE a c s) (outF a) K k i g = [(true, v)] ∧ rng v ∧ Fr (fun q _ => q = 275) ν ν2 ∧ CE a c s T law b e K ν0 ν2 := by
  intro k
  induction k with
  | zero =>
    intro f i g ν hi hb hf h hg hn hcs hty
    obtain ⟨f, rfl⟩ := fsucc hf
    have ht : g.map Prod.fst = [true] := Option.some.inj hty
    obtain ⟨v, g1, rfl, e1⟩ := gmap1 ht
    have e2 : g1 = [] := List.map_eq_nil_iff.mp e1
    subst e2
    refine ⟨v, ν, ?_, rfl, (hg (true, v) (by simp)).1, Fr_rfl _ _, h⟩
    rw [Su_valueOf_38, inb_nI (by omega), nI_clamp (by omega), if_pos (by simp; omega), h.2.2.2.2, if_pos (by rw [nI_le' (by omega) (by omega)]; omega)]
    unfold Su_valueOf_174
    rw [show gi ν 275 0 = v.toInt32 from hcs.1]
  | succ k ih =>
    intro f i g ν hi hb hf h hg hn hcs hty
    obtain ⟨f, rfl⟩ := fsucc hf
    obtain ⟨u, t1, t2⟩ := obind hty
    obtain ⟨ν1, p1, p2, p3, p4⟩ := c_op hT h hw hc hs hl hb (by omega) h300 hg hn hcs t1 f
    obtain ⟨o1, o2, o3⟩ := op_ty (E := nE a c s) (out := outF a) t1 (fun v _ => nE_rng hw hc hs) hg
    obtain ⟨v, ν2, q1, q2, q3, q4, q5⟩ := ih f (i + 1) _ ν1 (by omega) (by omega) (by omega) p2 o2 (by omega) p3 (by rw [o1]; exact t2)
    exact ⟨v, ν2, by rw [p1]; exact q1, q2, q3, Fr_tr p4 q4, q5⟩

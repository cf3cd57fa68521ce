/-! Rows: facts of numbers. -/
def RI (r e : Nat → Nat) : Prop := ∀ c, c < 4 → r c ≤ 3840 ∧ e c ≤ 2 ∧ (e c ≠ 0 → r c ≠ 0)
def TI (m : Nat) (t : Nat → Nat) : Prop := (∀ i, i ≤ m → t i ≤ t m) ∧ t m ≤ 3840 * m
theorem c4 {c : Nat} (h : c < 4) : c = 0 ∨ c = 1 ∨ c = 2 ∨ c = 3 := by omega
theorem vl_t {r e : Nat → Nat} {x : Nat} : vl r e x = true ↔ ∀ c, c < 4 → dg x c ≤ mo r e c := by
  unfold vl
  simp only [Bool.and_eq_true, decide_eq_true_eq]
  constructor
  · rintro ⟨h0, h1, h2, h3⟩ c hc
    rcases c4 hc with rfl | rfl | rfl | rfl <;> assumption
  · intro h; exact ⟨h 0 (by omega), h 1 (by omega), h 2 (by omega), h 3 (by omega)⟩
theorem mo_le (r e : Nat → Nat) (c : Nat) : mo r e c ≤ 2 := by unfold mo; split <;> omega
theorem bn_le {r e : Nat → Nat} (hr : RI r e) {x : Nat} (hv : vl r e x = true) {c : Nat} (hc : c < 4) : bn e x c ≤ 2 ∧ (bn e x c ≠ 0 → r c ≠ 0) := by
  have h1 := vl_t.mp hv c hc
  have h2 := hr c hc
  unfold mo at h1
  unfold bn
  split at h1 <;> omega
theorem nd_le {r e : Nat → Nat} (hr : RI r e) {x : Nat} (hv : vl r e x = true) {c : Nat} (hc : c < 4) (hn : bn e x c ≠ 0) : 1 ≤ nd r e x c ∧ nd r e x c ≤ 3840 ∧ r c - nd r e x c * bn e x c = 0 := by
  have h1 := bn_le hr hv hc
  have h2 := (hr c hc).1
  have h3 := h1.2 hn
  unfold nd
  rcases (show bn e x c = 1 ∨ bn e x c = 2 by omega) with q | q <;> rw [q] <;> omega
theorem byK_le {r e : Nat → Nat} (hr : RI r e) {x : Nat} (hv : vl r e x = true) : ∀ (k i s : Nat), i + k ≤ 4 → s ≤ 3840 → byK r e x k i s ≤ 3840 ∧ (byK r e x k i s = s ∨ ∃ c, i ≤ c ∧ c < i + k ∧ bn e x c ≠ 0 ∧ byK r e x k i s = nd r e x c) ∧ (byK r e x k i s = 0 → s = 0 ∧ ∀ c, i ≤ c → c < i + k → bn e x c = 0) := by
  intro k
  induction k with
  | zero => intro i s _ hs; exact ⟨hs, Or.inl rfl, fun h => ⟨h, fun c _ _ => by omega⟩⟩
  | succ k ih =>
    intro i s hi hs
    show byK r e x k (i + 1) _ ≤ 3840 ∧ _
    by_cases e0 : bn e x i = 0
    · rw [show byK r e x (k + 1) i s = byK r e x k (i + 1) s by show byK r e x k (i + 1) (if bn e x i = 0 then s else _) = _; rw [if_pos e0], if_pos e0]
      obtain ⟨h1, h2, h3⟩ := ih (i + 1) s (by omega) hs
      refine ⟨h1, ?_, fun q => ?_⟩
      · rcases h2 with q | ⟨c, c1, c2, c3⟩
        · exact Or.inl q
        · exact Or.inr ⟨c, by omega, by omega, c3⟩
      · obtain ⟨q1, q2⟩ := h3 q
        refine ⟨q1, fun c c1 c2 => ?_⟩
        by_cases ec : c = i
        · subst ec; exact e0
        · exact q2 c (by omega) (by omega)
    · have hn := nd_le hr hv (show i < 4 by omega) e0
      have es : ∃ s2, (if bn e x i = 0 then s else if s = 0 then nd r e x i else min s (nd r e x i)) = s2 ∧ 1 ≤ s2 ∧ s2 ≤ 3840 ∧ (s2 = s ∨ s2 = nd r e x i) := by
        refine ⟨_, rfl, ?_⟩
        rw [if_neg e0]
        by_cases z : s = 0
        · rw [if_pos z]; exact ⟨hn.1, hn.2.1, Or.inr rfl⟩
        · rw [if_neg z]; omega
      obtain ⟨s2, e2, l1, l2, l3⟩ := es
      rw [show byK r e x (k + 1) i s = byK r e x k (i + 1) s2 by show byK r e x k (i + 1) _ = _; rw [e2], e2]
      obtain ⟨h1, h2, h3⟩ := ih (i + 1) s2 (by omega) l2
      refine ⟨h1, ?_, fun q => ?_⟩
      · rcases h2 with q | ⟨c, c1, c2, c3⟩
        · rcases l3 with z | z
          · exact Or.inl (by rw [q, z])
          · exact Or.inr ⟨i, by omega, by omega, e0, by rw [q, z]⟩
        · exact Or.inr ⟨c, by omega, by omega, c3⟩
      · have := (h3 q).1; omega
theorem by_le {r e : Nat → Nat} (hr : RI r e) {x : Nat} (hv : vl r e x = true) : byA r e x ≤ 3840 := (byK_le hr hv 4 0 0 (by omega) (by omega)).1
theorem by_at {r e : Nat → Nat} (hr : RI r e) {x : Nat} (hv : vl r e x = true) (h : byA r e x ≠ 0) : ∃ c, c < 4 ∧ bn e x c ≠ 0 ∧ byA r e x = nd r e x c := by
  rcases (byK_le hr hv 4 0 0 (by omega) (by omega)).2.1 with q | ⟨c, -, c2, c3, c5⟩
  · exact absurd q h
  · exact ⟨c, by omega, c3, c5⟩
theorem by_0 {r e : Nat → Nat} (hr : RI r e) {x : Nat} (hv : vl r e x = true) (h : byA r e x = 0) : ∀ c, c < 4 → bn e x c = 0 := fun c hc => ((byK_le hr hv 4 0 0 (by omega) (by omega)).2.2 h).2 c (by omega) (by omega)
theorem RI_n {r e : Nat → Nat} (hr : RI r e) {x : Nat} (hv : vl r e x = true) : RI (nr r e x) (ne r e x) := by
  intro c hc
  have h1 := hr c hc
  have h2 := bn_le hr hv hc
  unfold ne
  refine ⟨by unfold nr; omega, ?_, ?_⟩
  · split <;> omega
  · split
    · rename_i q; intro z; exact absurd rfl z
    · rename_i q; intro _; exact q
def lv (r : Nat → Nat) : Nat := sm (fun c => if r c = 0 then 0 else 1) 4 0
theorem lv_n {r e : Nat → Nat} (hr : RI r e) {x : Nat} (hv : vl r e x = true) (h : byA r e x ≠ 0) : lv (nr r e x) < lv r := by
  obtain ⟨c, hc, c1, c2⟩ := by_at hr hv h
  have ez : nr r e x c = 0 := by unfold nr; rw [c2]; exact (nd_le hr hv hc c1).2.2
  have e0 := (bn_le hr hv hc).2 c1
  have le : ∀ d, (if nr r e x d = 0 then 0 else 1) ≤ (if r d = 0 then 0 else 1) := by
    intro d
    unfold nr
    by_cases q : r d = 0
    · rw [if_pos q, if_pos (by omega)]; exact Nat.le_refl _
    · rw [if_neg q]; split <;> omega
  have lt : (if nr r e x c = 0 then 0 else 1) < (if r c = 0 then 0 else 1) := by rw [if_pos ez, if_neg e0]; omega
  have l0 := le 0
  have l1 := le 1
  have l2 := le 2
  have l3 := le 3
  unfold lv
  simp only [sm, Nat.zero_add, Nat.reduceAdd]
  rcases c4 hc with rfl | rfl | rfl | rfl <;> omega
theorem lv_0 {r : Nat → Nat} (h : lv r = 0) : ∀ c, c < 4 → r c = 0 := by
  intro c hc
  unfold lv at h
  simp only [sm, Nat.zero_add, Nat.reduceAdd] at h
  have k : ∀ d, (if r d = 0 then 0 else 1) = 0 → r d = 0 := fun d q => by
    by_cases z : r d = 0
    · exact z
    · rw [if_neg z] at q; omega
  rcases c4 hc with rfl | rfl | rfl | rfl <;> exact k _ (by omega)
theorem lv_4 (r : Nat → Nat) : lv r ≤ 4 := by
  have k : ∀ d, (if r d = 0 then 0 else 1) ≤ 1 := fun d => by split <;> omega
  have h0 := k 0
  have h1 := k 1
  have h2 := k 2
  have h3 := k 3
  unfold lv
  simp only [sm, Nat.zero_add, Nat.reduceAdd]
  omega
/-- no cord is left: nothing more is lit -/
theorem out_by {r e : Nat → Nat} (hr : RI r e) (h : lv r = 0) {x : Nat} (hv : vl r e x = true) : byA r e x = 0 := by
  apply Decidable.byContradiction
  intro q
  obtain ⟨c, hc, c1, c2⟩ := by_at hr hv q
  exact (bn_le hr hv hc).2 c1 (lv_0 h c hc)
theorem TI_n {m : Nat} {t : Nat → Nat} (h : TI m t) {b : Nat} (hb : b ≤ 3840) : TI (m + 1) (upn t (m + 1) (t m + b)) := by
  refine ⟨fun i hi => ?_, ?_⟩
  · rw [upn_s]
    by_cases e : i = m + 1
    · subst e; rw [upn_s]; exact Nat.le_refl _
    · rw [upn_n _ _ e]
      have := h.1 i (by omega)
      omega
  · rw [upn_s]; have := h.2; omega
theorem RI_0 {a : Nat → Nat} (hw : WF a) (s : Nat) (hs : s < 16) : RI (r0 a s) zer := by
  intro c hc
  have := (wbc hw hc).2.2.1
  refine ⟨?_, by unfold zer; omega, fun q => absurd rfl q⟩
  unfold r0
  split <;> omega
theorem TI_0 : TI 0 zer := ⟨fun _ _ => Nat.le_refl _, Nat.le_refl _⟩
/-- spans that are marked below a moment -/
def Sub : Nat → Nat → (Nat → Nat) → (Nat → Nat) → (Nat → Nat) → Nat → Prop
  | 0, _, _, _, _, _ => False
  | k + 1, m, t, r, e, v => ∃ x, x < 81 ∧ vl r e x = true ∧ byA r e x ≠ 0 ∧ ((∃ i, i ≤ m ∧ upn t (m + 1) (t m + byA r e x) (m + 1) - upn t (m + 1) (t m + byA r e x) i = v) ∨ Sub k (m + 1) (upn t (m + 1) (t m + byA r e x)) (nr r e x) (ne r e x) v)
theorem hit_some {v m : Nat} {t : Nat → Nat} : ∀ (k i : Nat), (hit v m t k i).isSome = true ↔ ∃ j, i ≤ j ∧ j < i + k ∧ t m - t j = v := by
  intro k
  induction k with
  | zero => intro i; exact ⟨fun h => (by cases h), fun ⟨j, h1, h2, _⟩ => by omega⟩
  | succ k ih =>
    intro i
    unfold hit
    by_cases e : t m - t i = v
    · rw [if_pos e]; exact ⟨fun _ => ⟨i, by omega, by omega, e⟩, fun _ => rfl⟩
    · rw [if_neg e, ih (i + 1)]
      constructor
      · rintro ⟨j, h1, h2, h3⟩; exact ⟨j, by omega, by omega, h3⟩
      · rintro ⟨j, h1, h2, h3⟩
        refine ⟨j, ?_, by omega, h3⟩
        by_cases z : j = i
        · subst z; exact absurd h3 e
        · omega
theorem fsc_some {α : Type} {g : Nat → Option α} : ∀ (j x : Nat), (fsc g j x).isSome = true ↔ ∃ y, x ≤ y ∧ y < x + j ∧ (g y).isSome = true := by
  intro j
  induction j with
  | zero => intro x; exact ⟨fun h => (by cases h), fun ⟨y, h1, h2, _⟩ => by omega⟩
  | succ j ih =>
    intro x
    unfold fsc
    cases hg : g x with
    | some p => exact ⟨fun _ => ⟨x, by omega, by omega, by rw [hg]; rfl⟩, fun _ => rfl⟩
    | none =>
      show (fsc g j (x + 1)).isSome = true ↔ _
      rw [ih (x + 1)]
      constructor
      · rintro ⟨y, h1, h2, h3⟩; exact ⟨y, by omega, by omega, h3⟩
      · rintro ⟨y, h1, h2, h3⟩
        refine ⟨y, ?_, by omega, h3⟩
        by_cases z : y = x
        · subst z; rw [hg] at h3; cases h3
        · omega
theorem fbr_some {F : (Nat → Nat) → (Nat → Nat) → (Nat → Nat) → Option (Nat × List Nat)} {m : Nat} {t r e : Nat → Nat} {x : Nat} : (fbr F m t r e x).isSome = true ↔ (vl r e x = true ∧ byA r e x ≠ 0 ∧ (F (upn t (m + 1) (t m + byA r e x)) (nr r e x) (ne r e x)).isSome = true) := by
  unfold fbr
  by_cases h : vl r e x = true ∧ byA r e x ≠ 0
  · rw [if_pos h, Option.isSome_map]
    exact ⟨fun q => ⟨h.1, h.2, q⟩, fun q => q.2.2⟩
  · rw [if_neg h]
    exact ⟨fun q => (by cases q), fun q => absurd ⟨q.1, q.2.1⟩ h⟩
theorem Sub_fnd {v : Nat} : ∀ (k m : Nat) (t r e : Nat → Nat), Sub k m t r e v ↔ ∃ n, 1 ≤ n ∧ n ≤ k ∧ (fnd v n m t r e).isSome = true := by
  intro k
  induction k with
  | zero => intro m t r e; exact ⟨fun h => h.elim, fun ⟨n, h1, h2, _⟩ => by omega⟩
  | succ k ih =>
    intro m t r e
    have f0 : ∀ (m : Nat) (t r e : Nat → Nat), (fnd v 0 m t r e).isSome = true ↔ ∃ i, i < m ∧ t m - t i = v := by
      intro m t r e
      show ((hit v m t m 0).map _).isSome = true ↔ _
      rw [Option.isSome_map, hit_some]
      constructor
      · rintro ⟨j, _, h2, h3⟩; exact ⟨j, by omega, h3⟩
      · rintro ⟨j, h2, h3⟩; exact ⟨j, by omega, by omega, h3⟩
    have fs : ∀ n, (fnd v (n + 1) m t r e).isSome = true ↔ ∃ x, x < 81 ∧ vl r e x = true ∧ byA r e x ≠ 0 ∧ (fnd v n (m + 1) (upn t (m + 1) (t m + byA r e x)) (nr r e x) (ne r e x)).isSome = true := by
      intro n
      show (fsc (fbr (fnd v n (m + 1)) m t r e) 81 0).isSome = true ↔ _
      rw [fsc_some]
      constructor
      · rintro ⟨y, _, h2, h3⟩; exact ⟨y, by omega, fbr_some.mp h3⟩
      · rintro ⟨y, h2, h3⟩; exact ⟨y, by omega, by omega, fbr_some.mpr h3⟩
    constructor
    · rintro ⟨x, x1, x2, x3, ⟨i, i1, i2⟩ | hs⟩
      · exact ⟨1, by omega, by omega, (fs 0).mpr ⟨x, x1, x2, x3, (f0 _ _ _ _).mpr ⟨i, by omega, i2⟩⟩⟩
      · obtain ⟨n, n1, n2, n3⟩ := (ih (m + 1) _ _ _).mp hs
        exact ⟨n + 1, by omega, by omega, (fs n).mpr ⟨x, x1, x2, x3, n3⟩⟩
    · rintro ⟨n, n1, n2, n3⟩
      obtain ⟨n, rfl⟩ : ∃ n2, n = n2 + 1 := ⟨n - 1, by omega⟩
      obtain ⟨x, x1, x2, x3, x4⟩ := (fs n).mp n3
      refine ⟨x, x1, x2, x3, ?_⟩
      by_cases z : n = 0
      · subst z
        obtain ⟨i, i1, i2⟩ := (f0 _ _ _ _).mp x4
        exact Or.inl ⟨i, by omega, i2⟩
      · exact Or.inr ((ih (m + 1) _ _ _).mpr ⟨n, by omega, by omega, x4⟩)
theorem mkS_Sub {a : Nat → Nat} {s v : Nat} : mkS a s v ↔ Sub 4 0 zer (r0 a s) zer v := (Sub_fnd 4 0 zer (r0 a s) zer).symm
/-! what is lit next -/
def vq (m0 m1 m2 m3 x : Nat) : Bool := decide (dg x 0 ≤ m0) && (decide (dg x 1 ≤ m1) && (decide (dg x 2 ≤ m2) && decide (dg x 3 ≤ m3)))
def nxq (m0 m1 m2 m3 x : Nat) : Option Nat := fsc (fun y => if vq m0 m1 m2 m3 y = true then some y else none) (80 - x) (x + 1)
def chq (m0 m1 m2 m3 x : Nat) : Option Nat := if dg x 0 < m0 then some (x - x % 3 ^ 0 + 3 ^ 0) else if dg x 1 < m1 then some (x - x % 3 ^ 1 + 3 ^ 1) else if dg x 2 < m2 then some (x - x % 3 ^ 2 + 3 ^ 2) else if dg x 3 < m3 then some (x - x % 3 ^ 3 + 3 ^ 3) else none
theorem ch_all : (List.range 81).all (fun M => (List.range 81).all (fun x => !(vq (dg M 0) (dg M 1) (dg M 2) (dg M 3) x) || decide (nxq (dg M 0) (dg M 1) (dg M 2) (dg M 3) x = chq (dg M 0) (dg M 1) (dg M 2) (dg M 3) x))) = true := by decide +kernel
theorem dgM {m0 m1 m2 m3 : Nat} (h0 : m0 < 3) (h1 : m1 < 3) (h2 : m2 < 3) (h3 : m3 < 3) : m0 + 3 * m1 + 9 * m2 + 27 * m3 < 81 ∧ dg (m0 + 3 * m1 + 9 * m2 + 27 * m3) 0 = m0 ∧ dg (m0 + 3 * m1 + 9 * m2 + 27 * m3) 1 = m1 ∧ dg (m0 + 3 * m1 + 9 * m2 + 27 * m3) 2 = m2 ∧ dg (m0 + 3 * m1 + 9 * m2 + 27 * m3) 3 = m3 := by
  refine ⟨by omega, ?_, ?_, ?_, ?_⟩
  · show (m0 + 3 * m1 + 9 * m2 + 27 * m3) / 1 % 3 = m0; omega
  · show (m0 + 3 * m1 + 9 * m2 + 27 * m3) / 3 % 3 = m1; omega
  · show (m0 + 3 * m1 + 9 * m2 + 27 * m3) / 9 % 3 = m2; omega
  · show (m0 + 3 * m1 + 9 * m2 + 27 * m3) / 27 % 3 = m3; omega
theorem ch_nx {m0 m1 m2 m3 x : Nat} (h0 : m0 < 3) (h1 : m1 < 3) (h2 : m2 < 3) (h3 : m3 < 3) (hx : x < 81) (hv : vq m0 m1 m2 m3 x = true) : nxq m0 m1 m2 m3 x = chq m0 m1 m2 m3 x := by
  obtain ⟨k, k0, k1, k2, k3⟩ := dgM h0 h1 h2 h3
  have q := List.all_eq_true.mp (List.all_eq_true.mp ch_all _ (List.mem_range.mpr k)) x (List.mem_range.mpr hx)
  rw [k0, k1, k2, k3, hv] at q
  simpa using q
theorem dg_up : ∀ x, x < 81 → ∀ c, c < 4 → dg x c < 2 → x - x % 3 ^ c + 3 ^ c < 81 ∧ ∀ d, d < 4 → dg (x - x % 3 ^ c + 3 ^ c) d = if d < c then 0 else if d = c then dg x c + 1 else dg x d := by decide +kernel
theorem dg_le (x c : Nat) : dg x c ≤ 2 := by unfold dg; omega

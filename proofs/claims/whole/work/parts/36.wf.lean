/-! What holds of a state's numbers; the invariant. -/
/-- how large a number of a can be -/
def ubS (k : Nat) : Nat := if k = 0 then 4 else if k = 1 then 639936 else if k = 2 then 30780 else if k = 3 then 8 else if k = 4 then 30 else if k < 13 then (if k % 2 = 1 then 3840 else 3) else 33554431
def ub (i : Nat) : Nat :=
  if i < 8 then ([4, 8, 4, 4, 30, 4, 8, 8] : List Nat).getD i 0
  else if i < 20 then ubS (i - 7)
  else if i < 28 then (if i % 2 = 0 then 60 else 99)
  else if i = 28 then 15 else if i < 33 then 15360
  else if i < 49 then (if i % 2 = 1 then 15 else 1)
  else if i < 65 then (if i % 2 = 1 then 3 else 10)
  else if i < 1355 then ubS ((i - 65) % 43) else 33554431
def UB (a : Nat → Nat) : Prop := ∀ i, i < 1385 → a i ≤ ub i
theorem UB_up {a : Nat → Nat} {i v : Nat} (h : UB a) (hv : v ≤ ub i) : UB (upn a i v) := by
  intro j hj
  by_cases e : j = i
  · subst e; rw [upn_s]; exact hv
  · rw [upn_n _ _ e]; exact h j hj
/-- the cords of a Pit whose rest and ends begin at x, n cords told -/
def PW (a : Nat → Nat) (n x : Nat) : Prop := ∀ c, c < 4 → (a (x + 1 + 2 * c) ≠ 0 → a (x + 2 * c) ≠ 0) ∧ (n ≤ c → a (x + 1 + 2 * c) = 0) ∧ (c < n → a (x + 2 * c) ≤ 64 * a (20 + 2 * c))
def W1 (a : Nat → Nat) : Prop := 1 ≤ a 1
def W2 (a : Nat → Nat) : Prop := a 3 ≤ a 2
def W3 (a : Nat → Nat) : Prop := PW a (a 0) 12 ∧ ∀ c, c < 4 → c < a 0 → 1 ≤ a (20 + 2 * c)
def W4 (a : Nat → Nat) : Prop := ∀ i, i < 4 → i < a 5 → 1 ≤ a (29 + i)
def W5 (a : Nat → Nat) : Prop := ∀ i, i < 8 → i < a 7 → a (49 + 2 * i) < a 0
def W6 (a : Nat → Nat) : Prop := ∀ i, i < 30 → i < a 4 → a (65 + 43 * i) ≤ a 0 ∧ PW a (a (65 + 43 * i)) (70 + 43 * i)
def WF (a : Nat → Nat) : Prop := UB a ∧ W1 a ∧ W2 a ∧ W3 a ∧ W4 a ∧ W5 a ∧ W6 a
theorem PW_keep {a a2 : Nat → Nat} {n x : Nat} (h : PW a n x) (ha : ∀ j, (x ≤ j ∧ j < x + 8) ∨ (20 ≤ j ∧ j < 28) → a2 j = a j) : PW a2 n x := by
  intro c hc
  rw [ha (x + 1 + 2 * c) (by omega), ha (x + 2 * c) (by omega), ha (20 + 2 * c) (by omega)]
  exact h c hc
theorem W3_keep {a a2 : Nat → Nat} (h : W3 a) (ha : ∀ j, j = 0 ∨ (12 ≤ j ∧ j < 28) → a2 j = a j) : W3 a2 := by
  refine ⟨?_, fun c h1 h2 => ?_⟩
  · rw [ha 0 (by omega)]; exact PW_keep h.1 (fun j hj => ha j (by omega))
  · rw [ha 0 (by omega)] at h2; rw [ha _ (by omega)]; exact h.2 c h1 h2
theorem W4_keep {a a2 : Nat → Nat} (h : W4 a) (ha : ∀ j, j = 5 ∨ (29 ≤ j ∧ j < 33) → a2 j = a j) : W4 a2 := fun i h1 h2 => by
  rw [ha 5 (by omega)] at h2; rw [ha _ (by omega)]; exact h i h1 h2
theorem W5_keep {a a2 : Nat → Nat} (h : W5 a) (ha : ∀ j, j = 7 ∨ j = 0 ∨ (49 ≤ j ∧ j < 65) → a2 j = a j) : W5 a2 := fun i h1 h2 => by
  rw [ha 7 (by omega)] at h2; rw [ha _ (by omega), ha 0 (by omega)]; exact h i h1 h2
theorem W6_keep {a a2 : Nat → Nat} (h : W6 a) (ha : ∀ j, j = 4 ∨ j = 0 ∨ (20 ≤ j ∧ j < 28) ∨ (65 ≤ j ∧ j < 1355) → a2 j = a j) : W6 a2 := fun i h1 h2 => by
  rw [ha 4 (by omega)] at h2
  obtain ⟨q1, q2⟩ := h i h1 h2
  rw [ha _ (by omega), ha 0 (by omega)]
  exact ⟨q1, PW_keep q2 (fun j hj => ha j (by omega))⟩
/-! Frames: what a call may change. -/
def Fr (S : Nat → Nat → Prop) (ν ν2 : Nm) : Prop := (∀ q j, ¬ S q j → gi ν2 q j = gi ν q j) ∧ ∀ q j, ¬ S q j → gl ν2 q j = gl ν q j
theorem Fr_rfl (S : Nat → Nat → Prop) (ν : Nm) : Fr S ν ν := ⟨fun _ _ _ => rfl, fun _ _ _ => rfl⟩
theorem Fr_tr {S : Nat → Nat → Prop} {ν ν1 ν2 : Nm} (h : Fr S ν ν1) (h2 : Fr S ν1 ν2) : Fr S ν ν2 := ⟨fun q j n => (h2.1 q j n).trans (h.1 q j n), fun q j n => (h2.2 q j n).trans (h.2 q j n)⟩
theorem Fr_si {S : Nat → Nat → Prop} {ν ν1 : Nm} (h : Fr S ν ν1) {q j : Nat} (v : Int32) (hs : S q j) : Fr S ν (si ν1 q j v) :=
  ⟨fun q2 j2 n => by rw [gi_si, if_neg (fun e => n (by rw [e.1, e.2]; exact hs))]; exact h.1 q2 j2 n, fun q2 j2 n => h.2 q2 j2 n⟩
theorem Fr_sl {S : Nat → Nat → Prop} {ν ν1 : Nm} (h : Fr S ν ν1) {q j : Nat} (v : Int64) (hs : S q j) : Fr S ν (sl ν1 q j v) :=
  ⟨fun q2 j2 n => h.1 q2 j2 n, fun q2 j2 n => by rw [gl_sl, if_neg (fun e => n (by rw [e.1, e.2]; exact hs))]; exact h.2 q2 j2 n⟩
theorem Fr_scp {S : Nat → Nat → Prop} {ν ν1 : Nm} (h : Fr S ν ν1) {a sp b dp k : Nat} (hs : ∀ j, S b j) : Fr S ν (scp ν1 a sp b dp k) :=
  ⟨fun q2 j2 n => by rw [gi_scp, if_neg (fun e => n (by rw [e.1]; exact hs j2))]; exact h.1 q2 j2 n, fun q2 j2 n => h.2 q2 j2 n⟩
theorem Fr_mono {S T : Nat → Nat → Prop} {ν ν1 : Nm} (h : Fr S ν ν1) (hs : ∀ q j, S q j → T q j) : Fr T ν ν1 := ⟨fun q j n => h.1 q j (fun m => n (hs q j m)), fun q j n => h.2 q j (fun m => n (hs q j m))⟩
/-- the class: the Store, and what sums are done with -/
def fc (q j : Nat) : Prop := (1 ≤ q ∧ q ≤ 135) ∨ q = 274 ∨ q = 275
/-- the model: its row, what went out, names, values, truths -/
def fm (q j : Nat) : Prop := q = 314 ∨ (q = 313 ∧ j = 24) ∨ (319 ≤ q ∧ q ≤ 321)
/-- the class's Store holds a, and nothing else has changed since ν0 -/
def C1 (a : Nat → Nat) (ν0 ν : Nm) : Prop := CX 1 a ν ∧ Fr fc ν0 ν
def M1 (a : Nat → Nat) (ν0 ν : Nm) : Prop := MX 314 a ν ∧ Fr fm ν0 ν
/-- the rest of a run: what isn't in the stores -/
def OX (a b : Nat → Nat) (ν : Nm) : Prop := (b 0 ≤ a 0 ∧ b 2 ≤ a 2 ∧ ∀ c, c < 4 → c < b 0 → b (20 + 2 * c) = a (20 + 2 * c)) ∧ gi ν 313 23 = 1 ∧
  (∃ n, n ≤ 300 ∧ gi ν 271 1 = nI n ∧ gi ν 313 4 = nI n) ∧ (∀ i, i < 300 → ∃ k, k < 256 ∧ gi ν 272 i = nI k ∧ gi ν 317 i = nI k) ∧ gi ν 271 2 = gi ν 313 5 ∧ gi ν 271 3 = gi ν 313 6
/-- cells of texts and rows: what stands there is told by a predicate that later parts give (kept while these cells are) -/
def dx (q : Nat) : Prop := (276 ≤ q ∧ q ≤ 281) ∨ (285 ≤ q ∧ q ≤ 312) ∨ q = 316 ∨ q = 327 ∨ q = 328
def Ex : Type := {E : (Nat → Nat) → Nm → Prop // ∀ (a a2 : Nat → Nat) (ν ν2 : Nm), E a ν → (∀ i, i = 0 ∨ i = 2 ∨ (20 ≤ i ∧ i < 28) → a2 i = a i) → (∀ q j, dx q → gi ν2 q j = gi ν q j) → (∀ q j, dx q → gl ν2 q j = gl ν q j) → E a2 ν2}
def Inv (a b : Nat → Nat) (τ : Ex) (ν : Nm) : Prop := WF a ∧ WF b ∧ CX 1 a ν ∧ CX 136 b ν ∧ MX 314 a ν ∧ MX 315 b ν ∧ τ.1 a ν ∧ OX a b ν
theorem OX_keep {a b a2 : Nat → Nat} {ν ν2 : Nm} (h : OX a b ν) (ha : ∀ i, i = 0 ∨ i = 2 ∨ (20 ≤ i ∧ i < 28) → a2 i = a i) (hk : ∀ q j, ¬ fc q j → ¬ fm q j → gi ν2 q j = gi ν q j) : OX a2 b ν2 := by
  obtain ⟨⟨h0, h1, h3⟩, h4, ⟨n, n1, n2, n3⟩, h5, h6, h7⟩ := h
  have k : ∀ q j, (271 ≤ q ∧ q < 274 ∨ q = 317 ∨ q = 313 ∧ j ≠ 24) → gi ν2 q j = gi ν q j := fun q j hq => hk q j (by unfold fc; omega) (by unfold fm; omega)
  refine ⟨⟨by rw [ha 0 (by omega)]; exact h0, by rw [ha 2 (by omega)]; exact h1, fun c hc4 hc => ?_⟩, ?_, ⟨n, n1, ?_, ?_⟩, fun i hi => ?_, ?_, ?_⟩
  · rw [ha _ (by omega)]; exact h3 c hc4 hc
  · rw [k _ _ (by omega)]; exact h4
  · rw [k _ _ (by omega)]; exact n2
  · rw [k _ _ (by omega)]; exact n3
  · obtain ⟨m, k1, k2, k3⟩ := h5 i hi
    exact ⟨m, k1, by rw [k _ _ (by omega)]; exact k2, by rw [k _ _ (by omega)]; exact k3⟩
  · rw [k _ _ (by omega), k _ _ (by omega)]; exact h6
  · rw [k _ _ (by omega), k _ _ (by omega)]; exact h7
/-- a call that changes the Store in the class, and the row in the model, alike -/
theorem Inv_step {a b a2 : Nat → Nat} {τ : Ex} {ν ν1 ν2 : Nm} (h : Inv a b τ ν) (hc : C1 a2 ν ν1) (hm : M1 a2 ν1 ν2) (hw : WF a2) (ha : ∀ i, i = 0 ∨ i = 2 ∨ (20 ≤ i ∧ i < 28) → a2 i = a i) : Inv a2 b τ ν2 := by
  obtain ⟨w1, w2, c1, c2, m1, m2, t, o⟩ := h
  have k : ∀ q j, ¬ fc q j → ¬ fm q j → gi ν2 q j = gi ν q j := fun q j n1 n2 => (hm.2.1 q j n2).trans (hc.2.1 q j n1)
  exact ⟨hw, w2, CX_keep hc.1 (fun q j h1 h2 => hm.2.1 q j (by unfold fm; omega)), CX_keep c2 (fun q j h1 h2 => k q j (by unfold fc; omega) (by unfold fm; omega)), hm.1, MX_keep m2 (fun j => k _ _ (by unfold fc; omega) (by unfold fm; omega)), τ.2 a a2 ν ν2 t ha (fun q j hq => k q j (by unfold dx at hq; unfold fc; omega) (by unfold dx at hq; unfold fm; omega)) (fun q j hq => (hm.2.2 q j (by unfold dx at hq; unfold fm; omega)).trans (hc.2.2 q j (by unfold dx at hq; unfold fc; omega))), OX_keep o ha k⟩
/-- what a call shows: class and model answer alike, and the invariant holds again -/
def Step (τ : Ex) {α : Type} (x m : Nm → Option (α × Nm)) (ν : Nm) : Prop := ∃ (v : α) (ν1 ν2 : Nm) (a2 b2 : Nat → Nat), x ν = some (v, ν1) ∧ m ν1 = some (v, ν2) ∧ Inv a2 b2 τ ν2
/-- a call that changes nothing -/
def Look {α : Type} (x m : Nm → Option α) (ν : Nm) : Prop := ∃ v : α, x ν = some v ∧ m ν = some v
theorem Step_mk {α : Type} {a b a2 : Nat → Nat} {τ : Ex} {ν ν1 ν2 : Nm} (h : Inv a b τ ν) (hc : C1 a2 ν ν1) (hm : M1 a2 ν1 ν2) (hw : WF a2) (ha : ∀ i, i = 0 ∨ i = 2 ∨ (20 ≤ i ∧ i < 28) → a2 i = a i) {x m : Nm → Option (α × Nm)} (v : α) (h1 : x ν = some (v, ν1)) (h2 : m ν1 = some (v, ν2)) : Step τ x m ν := ⟨v, ν1, ν2, a2, b, h1, h2, Inv_step h hc hm hw ha⟩
theorem C1_0 {a b : Nat → Nat} {τ : Ex} {ν : Nm} (h : Inv a b τ ν) : C1 a ν ν := ⟨h.2.2.1, Fr_rfl _ _⟩
theorem M1_0 {a b a2 : Nat → Nat} {τ : Ex} {ν ν1 : Nm} (h : Inv a b τ ν) (hc : C1 a2 ν ν1) : M1 a ν1 ν1 := ⟨MX_keep h.2.2.2.2.1 (fun j => hc.2.1 _ _ (by unfold fc; omega)), Fr_rfl _ _⟩
theorem C1_up {a : Nat → Nat} {ν0 ν : Nm} (h : C1 a ν0 ν) (p : Nat × Nat × Nat) (hp : p ∈ plL) (h4 : p.1 ≠ 4) (h30 : a 4 ≤ 30) (v : Nat) : C1 (upn a p.1 v) ν0 (si ν (1 + p.2.1) p.2.2 (nI v)) :=
  ⟨CX_up h.1 p hp h4 h30 v, Fr_si h.2 _ (Or.inl (by have := (plNo p hp).2.2.2.2.2.2.2.2; omega))⟩
theorem C1_pl {a : Nat → Nat} {ν0 ν : Nm} (h : C1 a ν0 ν) (i q j : Nat) (hp : (i, q - 1, j) ∈ plL) (hq : 1 ≤ q) (h4 : i ≠ 4) (h30 : a 4 ≤ 30) (v : Nat) : C1 (upn a i v) ν0 (si ν q j (nI v)) := by
  have k := C1_up h (i, q - 1, j) hp h4 h30 v
  have e : 1 + (q - 1) = q := by omega
  show C1 (upn a i v) ν0 (si ν q j (nI v))
  rw [← e]
  exact k
theorem M1_up {a : Nat → Nat} {ν0 ν : Nm} (h : M1 a ν0 ν) {i : Nat} (v : Nat) (hi : i ≠ 3) : M1 (upn a i v) ν0 (si ν 314 i (nI v)) := ⟨MX_up h.1 hi, Fr_si h.2 _ (Or.inl rfl)⟩
theorem CX_ext {s : Nat} {a a2 : Nat → Nat} {ν : Nm} (h : CX s a ν) (e : ∀ j, j < 1385 → a2 j = a j) (h30 : a 4 ≤ 30) : CX s a2 ν := by
  obtain ⟨h1, h2, ⟨h3, h34⟩, f, h5, h6, h7⟩ := h
  refine ⟨fun q hq => ?_, ?_, ⟨fun i hi => ?_, fun i hi => ?_⟩, f, h5, h6, fun i hi => ?_⟩
  · rw [e _ (plNo q hq).2.2.1]; exact h1 q hq
  · unfold RX; rw [e _ (by omega)]; exact h2
  · rw [e _ (by omega), e _ (by omega)]; exact h3 i hi
  · rw [e _ (by omega), e _ (by omega)]; exact h34 i hi
  · rw [e _ (by omega)] at hi
    exact SX1_keep (h7 i hi) (fun _ _ _ _ => rfl) (fun k k1 k2 => e k (by omega))
theorem MX_ext {m : Nat} {a a2 : Nat → Nat} {ν : Nm} (h : MX m a ν) (e : ∀ j, j < 1385 → a2 j = a j) : MX m a2 ν := ⟨fun j h1 h2 => by rw [e j h1]; exact h.1 j h1 h2, by rw [e 3 (by omega)]; exact h.2⟩
/-! What is read. -/
theorem cr {a : Nat → Nat} {ν0 ν : Nm} (h : C1 a ν0 ν) : gi ν 2 0 = nI (a 0) ∧ gi ν 1 5 = nI (a 1) ∧ gi ν 1 6 = nI (a 2) ∧ gi ν 1 7 = nI (a 3) - 1 ∧ gi ν 6 2 = nI (a 4) ∧ gi ν 130 1 = nI (a 5) ∧ gi ν 132 1 = nI (a 6) ∧ gi ν 134 1 = nI (a 7) ∧ gi ν 2 1 = nI (a 8) ∧ gi ν 2 2 = nI (a 9) ∧ gi ν 2 3 = nI (a 10) ∧ gi ν 2 7 = nI (a 11) ∧ gi ν 1 4 = nI (a 28) :=
  have k := h.1.1
  ⟨k (0, 1, 0) (by decide), k (1, 0, 5) (by decide), k (2, 0, 6) (by decide), h.1.2.1, k (4, 5, 2) (by decide), k (5, 129, 1) (by decide), k (6, 131, 1) (by decide), k (7, 133, 1) (by decide), k (8, 1, 1) (by decide), k (9, 1, 2) (by decide), k (10, 1, 3) (by decide), k (11, 1, 7) (by decide), k (28, 0, 4) (by decide)⟩
theorem plc1 : ∀ c, c < 4 → (12 + 2 * c, 2, c) ∈ plL := by decide
theorem plc2 : ∀ c, c < 4 → (13 + 2 * c, 3, c) ∈ plL := by decide
theorem plc3 : ∀ c, c < 4 → (20 + 2 * c, 127, c) ∈ plL := by decide
theorem plc4 : ∀ c, c < 4 → (21 + 2 * c, 128, c) ∈ plL := by decide
theorem plc5 : ∀ c, c < 4 → (29 + c, 130, c) ∈ plL := by decide
theorem plb : ∀ c, c < 30 → (1355 + c, 4, c) ∈ plL := by decide
theorem cr_rest {a : Nat → Nat} {ν0 ν : Nm} (h : C1 a ν0 ν) {c : Nat} (hc : c < 4) : gi ν 3 c = nI (a (12 + 2 * c)) := h.1.1 _ (plc1 c hc)
theorem cr_ends {a : Nat → Nat} {ν0 ν : Nm} (h : C1 a ν0 ν) {c : Nat} (hc : c < 4) : gi ν 4 c = nI (a (13 + 2 * c)) := h.1.1 _ (plc2 c hc)
theorem cr_min {a : Nat → Nat} {ν0 ν : Nm} (h : C1 a ν0 ν) {c : Nat} (hc : c < 4) : gi ν 128 c = nI (a (20 + 2 * c)) := h.1.1 _ (plc3 c hc)
theorem cr_price {a : Nat → Nat} {ν0 ν : Nm} (h : C1 a ν0 ν) {c : Nat} (hc : c < 4) : gi ν 129 c = nI (a (21 + 2 * c)) := h.1.1 _ (plc4 c hc)
theorem cr_want {a : Nat → Nat} {ν0 ν : Nm} (h : C1 a ν0 ν) {c : Nat} (hc : c < 4) : gi ν 131 c = nI (a (29 + c)) := h.1.1 _ (plc5 c hc)
theorem cr_book {a : Nat → Nat} {ν0 ν : Nm} (h : C1 a ν0 ν) {c : Nat} (hc : c < 30) : gi ν 5 c = nI (a (1355 + c)) := h.1.1 _ (plb c hc)
theorem cr_tried {a : Nat → Nat} {ν0 ν : Nm} (h : C1 a ν0 ν) {i : Nat} (hi : i < 8) : gi ν 133 i = nI (2 * a (33 + 2 * i) + a (34 + 2 * i)) := h.1.2.2.1.1 i hi
theorem cr_said {a : Nat → Nat} {ν0 ν : Nm} (h : C1 a ν0 ν) {i : Nat} (hi : i < 8) : gi ν 135 i = nI (11 * a (49 + 2 * i) + a (50 + 2 * i)) := h.1.2.2.1.2 i hi
theorem mr {a : Nat → Nat} {ν0 ν : Nm} (h : M1 a ν0 ν) {j : Nat} (h1 : j < 1385) (h3 : j ≠ 3) : gi ν 314 j = nI (a j) := h.1.1 j h1 h3
theorem mr3 {a : Nat → Nat} {ν0 ν : Nm} (h : M1 a ν0 ν) : gi ν 314 3 = nI (a 3) - 1 := h.1.2
/-- bounds of what is told -/
theorem wb {a : Nat → Nat} (h : WF a) : a 0 ≤ 4 ∧ 1 ≤ a 1 ∧ a 1 ≤ 8 ∧ a 2 ≤ 4 ∧ a 3 ≤ a 2 ∧ a 4 ≤ 30 ∧ a 5 ≤ 4 ∧ a 6 ≤ 8 ∧ a 7 ≤ 8 ∧ a 8 ≤ 639936 ∧ a 9 ≤ 30780 ∧ a 10 ≤ 8 ∧ a 11 ≤ 30 ∧ a 28 ≤ 15 :=
  have u := h.1
  ⟨u 0 (by decide), h.2.1, u 1 (by decide), u 2 (by decide), h.2.2.1, u 4 (by decide), u 5 (by decide), u 6 (by decide), u 7 (by decide), u 8 (by decide), u 9 (by decide), u 10 (by decide), u 11 (by decide), u 28 (by decide)⟩
theorem wbc {a : Nat → Nat} (h : WF a) {c : Nat} (hc : c < 4) : a (12 + 2 * c) ≤ 3840 ∧ a (13 + 2 * c) ≤ 3 ∧ a (20 + 2 * c) ≤ 60 ∧ a (21 + 2 * c) ≤ 99 ∧ a (29 + c) ≤ 15360 := by
  have u := h.1
  have k : ∀ c, c < 4 → ub (12 + 2 * c) = 3840 ∧ ub (13 + 2 * c) = 3 ∧ ub (20 + 2 * c) = 60 ∧ ub (21 + 2 * c) = 99 ∧ ub (29 + c) = 15360 := by decide
  obtain ⟨k1, k2, k3, k4, k5⟩ := k c hc
  have u1 := u (12 + 2 * c) (by omega)
  have u2 := u (13 + 2 * c) (by omega)
  have u3 := u (20 + 2 * c) (by omega)
  have u4 := u (21 + 2 * c) (by omega)
  have u5 := u (29 + c) (by omega)
  rw [k1] at u1; rw [k2] at u2; rw [k3] at u3; rw [k4] at u4; rw [k5] at u5
  exact ⟨u1, u2, u3, u4, u5⟩
theorem wbb {a : Nat → Nat} (h : WF a) {i : Nat} (hi : i < 30) : a (1355 + i) ≤ 33554431 := by
  have k : ∀ c, c < 30 → ub (1355 + c) = 33554431 := by decide
  have u := h.1 (1355 + i) (by omega)
  rw [k i hi] at u
  exact u
theorem wbt {a : Nat → Nat} (h : WF a) {i : Nat} (hi : i < 8) : a (33 + 2 * i) ≤ 15 ∧ a (34 + 2 * i) ≤ 1 ∧ a (49 + 2 * i) ≤ 3 ∧ a (50 + 2 * i) ≤ 10 := by
  have u := h.1
  have k : ∀ c, c < 8 → ub (33 + 2 * c) = 15 ∧ ub (34 + 2 * c) = 1 ∧ ub (49 + 2 * c) = 3 ∧ ub (50 + 2 * c) = 10 := by decide
  obtain ⟨k1, k2, k3, k4⟩ := k i hi
  have u1 := u (33 + 2 * i) (by omega)
  have u2 := u (34 + 2 * i) (by omega)
  have u3 := u (49 + 2 * i) (by omega)
  have u4 := u (50 + 2 * i) (by omega)
  rw [k1] at u1; rw [k2] at u2; rw [k3] at u3; rw [k4] at u4
  exact ⟨u1, u2, u3, u4⟩

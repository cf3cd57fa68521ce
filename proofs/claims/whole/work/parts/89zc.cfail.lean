/-! The class, once it failed: it only unwinds. -/
def CFk (T f pl : Nat) (x : Nm → Option Nm) : Prop := ∀ ν, CFl T f pl ν → ∃ ν2, x ν = some ν2 ∧ CFl T f pl ν2 ∧ Fr (frC T) ν ν2
theorem cf_131 {T f pl : Nat} {ν : Nm} (h : CFl T f pl ν) {k : Nat} (hk : k < 131) : gi ν 271 5 ≠ nI k := by
  rw [h.2.2.1, ne_eq, nI_eq' (by omega) (by omega)]; omega
theorem cf_131' {T f pl : Nat} {ν : Nm} (h : CFl T f pl ν) : gi ν 271 5 = 131 := h.2.2.1
theorem cf_one {T f pl : Nat} (hT : okT T) (hf : f ≠ 0) (hf2 : f < 2 ^ 31) {F : Nat} (hF : 1 ≤ F) : CFk T f pl (G_rd F 2 0) := by
  intro ν h
  obtain ⟨F, rfl⟩ : ∃ k, F = k + 1 := ⟨F - 1, by omega⟩
  rw [G_rd, if_neg (by omega), if_neg (by omega), if_pos rfl]
  unfold Rd_readOne
  have e : Rd_isName 131 = some false := by decide
  obtain ⟨ν2, e1, e2, e3⟩ := cf_fail hT hf hf2 h 1
  rw [cf_131' h, if_pos (by decide), e, Option.bind_some, if_pos (by decide), if_neg (by decide), if_neg (by decide), if_neg (by decide), if_neg (by decide), if_pos (by decide), e1, Option.bind_some]
  exact ⟨ν2, rfl, e2, e3⟩
theorem cf_bind {T f pl : Nat} {x : Nm → Option Nm} {y : Nm → Option Nm} (hx : CFk T f pl x) (hy : CFk T f pl y) : CFk T f pl (fun ν => (x ν).bind y) := by
  intro ν h
  obtain ⟨ν2, e1, e2, e3⟩ := hx ν h
  obtain ⟨ν3, d1, d2, d3⟩ := hy ν2 e2
  exact ⟨ν3, by show (x ν).bind y = _; rw [e1]; exact d1, d2, Fr_tr e3 d3⟩
theorem cf_prod {T f pl : Nat} (hT : okT T) (hf : f ≠ 0) (hf2 : f < 2 ^ 31) {F : Nat} (hF : 2 ≤ F) : CFk T f pl (G_rd F 1 0) := by
  intro ν h
  obtain ⟨F, rfl⟩ : ∃ k, F = k + 1 := ⟨F - 1, by omega⟩
  rw [G_rd, if_neg (by omega), if_pos rfl]
  unfold Rd_readProduct
  obtain ⟨ν2, e1, e2, e3⟩ := cf_one hT hf hf2 (F := F) (by omega) ν h
  rw [e1, Option.bind_some, show FU = 999999999 + 1 from rfl, Rd_readProduct_6, cf_131' e2, if_neg (by decide), if_neg (by decide), if_pos (by decide)]
  exact ⟨ν2, rfl, e2, e3⟩
theorem cf_sum {T f pl : Nat} (hT : okT T) (hf : f ≠ 0) (hf2 : f < 2 ^ 31) {F : Nat} (hF : 3 ≤ F) : CFk T f pl (G_rd F 0 0) := by
  intro ν h
  obtain ⟨F, rfl⟩ : ∃ k, F = k + 1 := ⟨F - 1, by omega⟩
  rw [G_rd, if_pos rfl]
  unfold Rd_readSum
  obtain ⟨ν2, e1, e2, e3⟩ := cf_prod hT hf hf2 (F := F) (by omega) ν h
  rw [e1, Option.bind_some, show FU = 999999999 + 1 from rfl, Rd_readSum_6, cf_131' e2, if_neg (by decide), if_neg (by decide), if_pos (by decide)]
  exact ⟨ν2, rfl, e2, e3⟩
theorem cf_ask {T f pl : Nat} (hT : okT T) (hf : f ≠ 0) (hf2 : f < 2 ^ 31) {F : Nat} (hF : 4 ≤ F) : CFk T f pl (G_rd F 7 0) := by
  intro ν h
  obtain ⟨F, rfl⟩ : ∃ k, F = k + 1 := ⟨F - 1, by omega⟩
  rw [G_rd, if_neg (by omega), if_neg (by omega), if_neg (by omega), if_neg (by omega), if_neg (by omega), if_neg (by omega), if_neg (by omega), if_pos rfl]
  unfold Rd_readAsk
  have e : Rd_compares 131 = some false := by decide
  obtain ⟨ν2, e1, e2, e3⟩ := cf_sum hT hf hf2 (F := F) (by omega) ν h
  obtain ⟨ν3, d1, d2, d3⟩ := cf_fail hT hf hf2 e2 1
  rw [cf_131' h, if_pos (by decide), e1, Option.bind_some, cf_131' e2, e, Option.bind_some, if_pos (by decide), d1, Option.bind_some]
  exact ⟨ν3, rfl, d2, Fr_tr e3 d3⟩
theorem cf_both {T f pl : Nat} (hT : okT T) (hf : f ≠ 0) (hf2 : f < 2 ^ 31) {F : Nat} (hF : 5 ≤ F) : CFk T f pl (G_rd F 6 0) := by
  intro ν h
  obtain ⟨F, rfl⟩ : ∃ k, F = k + 1 := ⟨F - 1, by omega⟩
  rw [G_rd, if_neg (by omega), if_neg (by omega), if_neg (by omega), if_neg (by omega), if_neg (by omega), if_neg (by omega), if_pos rfl]
  unfold Rd_readBoth
  obtain ⟨ν2, e1, e2, e3⟩ := cf_ask hT hf hf2 (F := F) (by omega) ν h
  rw [e1, Option.bind_some, show FU = 999999999 + 1 from rfl, Rd_readBoth_6, cf_131' e2, if_neg (by decide), if_pos (by decide)]
  exact ⟨ν2, rfl, e2, e3⟩
theorem cf_either {T f pl : Nat} (hT : okT T) (hf : f ≠ 0) (hf2 : f < 2 ^ 31) {F : Nat} (hF : 6 ≤ F) : CFk T f pl (G_rd F 5 0) := by
  intro ν h
  obtain ⟨F, rfl⟩ : ∃ k, F = k + 1 := ⟨F - 1, by omega⟩
  rw [G_rd, if_neg (by omega), if_neg (by omega), if_neg (by omega), if_neg (by omega), if_neg (by omega), if_pos rfl]
  unfold Rd_readEither
  obtain ⟨ν2, e1, e2, e3⟩ := cf_both hT hf hf2 (F := F) (by omega) ν h
  rw [e1, Option.bind_some, show FU = 999999999 + 1 from rfl, Rd_readEither_6, cf_131' e2, if_neg (by decide), if_pos (by decide)]
  exact ⟨ν2, rfl, e2, e3⟩
/-! Lists: what settling does, and types of code. -/
def zz (Y : List Nat) : List (Nat × Nat) := Y.map (fun o => (o, 0))
def hdR (l : Nat) (X : List Nat) : Prop := ∀ o Y, X = o :: Y → rk o < l
theorem stl_stop {l : Nat} {X : List Nat} (h : hdR l X) (c : List (Nat × Nat)) : stl l X c = (X, c) := by
  cases X with
  | nil => rfl
  | cons o X => unfold stl; rw [if_pos (h o X rfl)]
theorem stl_app {l : Nat} : ∀ (Y X : List Nat) (c : List (Nat × Nat)), (∀ o ∈ Y, l ≤ rk o) → hdR l X → stl l (Y ++ X) c = (X, c ++ zz Y) := by
  intro Y
  induction Y with
  | nil => intro X c _ h; rw [List.nil_append, stl_stop h]; unfold zz; rw [List.map_nil, List.append_nil]
  | cons o Y ih =>
    intro X c h h2
    rw [List.cons_append]
    unfold stl
    rw [if_neg (by have := h o List.mem_cons_self; omega), ih X _ (fun x hx => h x (List.mem_cons_of_mem _ hx)) h2]
    unfold zz
    rw [List.map_cons, List.append_assoc]
    rfl
theorem hdR_mono {l m : Nat} {X : List Nat} (h : hdR l X) (hm : l ≤ m) : hdR m X := fun o Y e => Nat.lt_of_lt_of_le (h o Y e) hm
theorem hdR_cons {l o : Nat} {X : List Nat} (h : rk o < l) : hdR l (o :: X) := fun o2 Y e => by injection e with e1 _; rw [← e1]; exact h
theorem opn_app : ∀ (Y X : List Nat), (∀ o ∈ Y, 1 ≤ rk o) → opn (Y ++ X) = opn X := by
  intro Y
  induction Y with
  | nil => intro X _; rfl
  | cons o Y ih =>
    intro X h
    rw [List.cons_append]
    unfold opn
    rw [if_neg (fun z => by have := h o List.mem_cons_self; have := (rk_0 o).mpr z; omega), ih X (fun x hx => h x (List.mem_cons_of_mem _ hx))]
    cases X <;> rfl
theorem cmpd_app5 : ∀ (Y X : List Nat), (∀ o ∈ Y, 5 ≤ rk o) → cmpd (Y ++ X) = cmpd X := by
  intro Y
  induction Y with
  | nil => intro X _; rfl
  | cons o Y ih =>
    intro X h
    rw [List.cons_append]
    unfold cmpd
    rw [if_neg (fun z => by have := h o List.mem_cons_self; omega), ih X (fun x hx => h x (List.mem_cons_of_mem _ hx))]
    cases X <;> rfl
theorem cmpd_appT : ∀ (Y X : List Nat), cmpd Y = true → cmpd (Y ++ X) = true := by
  intro Y
  induction Y with
  | nil => intro X h; cases h
  | cons o Y ih =>
    intro X h
    rw [List.cons_append]
    unfold cmpd at h ⊢
    by_cases z : rk o ≤ 4
    · rw [if_pos z] at h ⊢; exact h
    · rw [if_neg z] at h ⊢; exact ih X h
theorem cnO_app : ∀ (Y X : List Nat), cnO (Y ++ X) = cnO Y + cnO X := by
  intro Y
  induction Y with
  | nil => intro X; show cnO X = 0 + cnO X; omega
  | cons o Y ih =>
    intro X
    rw [List.cons_append]
    cases h : opO o with
    | true => rw [cnO_1 h, cnO_1 h, ih]; omega
    | false => rw [cnO_0 h, cnO_0 h, ih]
theorem zz_app (Y X : List Nat) : zz (Y ++ X) = zz Y ++ zz X := by unfold zz; rw [List.map_append]
theorem zz_len (Y : List Nat) : (zz Y).length = Y.length := by unfold zz; rw [List.length_map]
/-- types of code, as a list -/
def tyL : List (Nat × Nat) → List Bool → Option (List Bool)
  | [], s => some s
  | x :: e, s => (tyE x s).bind (tyL e)
theorem tyL_app : ∀ (a b : List (Nat × Nat)) (s : List Bool), tyL (a ++ b) s = (tyL a s).bind (tyL b) := by
  intro a
  induction a with
  | nil => intro b s; rfl
  | cons x a ih =>
    intro b s
    rw [List.cons_append]
    unfold tyL
    cases tyE x s with
    | none => rfl
    | some u => rw [Option.bind_some, Option.bind_some, ih]
theorem tyR_L (K : Nat → Nat × Nat) : ∀ (e : List (Nat × Nat)) (i : Nat) (s : List Bool), (∀ j, j < e.length → K (i + j) = e.getD j (0, 0)) → tyR K e.length i s = tyL e s := by
  intro e
  induction e with
  | nil => intro i s _; rfl
  | cons x e ih =>
    intro i s h
    rw [List.length_cons]
    unfold tyR tyL
    have h0 := h 0 (by rw [List.length_cons]; omega)
    rw [Nat.add_zero] at h0
    rw [h0]
    show (tyE x s).bind (tyR K e.length (i + 1)) = (tyE x s).bind (tyL e)
    cases tyE x s with
    | none => rfl
    | some u =>
      rw [Option.bind_some, Option.bind_some]
      exact ih (i + 1) u (fun j hj => by rw [show i + 1 + j = i + (j + 1) by omega, h (j + 1) (by rw [List.length_cons]; omega)]; rfl)
def nmOK (L : Nat) (e : List (Nat × Nat)) : Prop := ∀ x ∈ e, x.1 = 1 → x.2 < 7 ∧ (L ≠ 0 → x.2 ≠ 6)
theorem nmOK_app {L : Nat} {a b : List (Nat × Nat)} (ha : nmOK L a) (hb : nmOK L b) : nmOK L (a ++ b) := fun x hx => (List.mem_append.mp hx).elim (ha x) (hb x)
theorem nmOK_op {L o : Nat} (h : o ≠ 1) : nmOK L [(o, 0)] := fun x hx e => by
  have := List.mem_singleton.mp hx
  subst this
  exact absurd e h

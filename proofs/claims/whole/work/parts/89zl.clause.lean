/-! A clause, class and model at once. -/
theorem nmB_0 {β : Nat → Nat} {n p lo hi : Nat} (h : nmB β n p lo hi = 0) : tT β n p = 1 ∧ lo ≤ tN β n p ∧ tN β n p ≤ hi := by
  unfold nmB at h
  by_cases q : tT β n p = 1
  · rw [if_pos q] at h
    by_cases q2 : lo ≤ tN β n p ∧ tN β n p ≤ hi
    · exact ⟨q, q2⟩
    · rw [if_neg q2] at h; cases h
  · rw [if_neg q] at h; cases h
def BP (β : Nat → Nat) (n s p : Nat) (r : Bo) : Prop := (r.1 = 0 → p ≤ r.2.1 ∧ r.2.1 ≤ n ∧ p + r.2.2.2.2.length ≤ r.2.1 ∧ clOK (s, r.2.2.1, r.2.2.2.1) ∧ (s < 2 → tyL r.2.2.2.2 [] = some [true] ∧ nmOK s r.2.2.2.2 ∧ r.2.2.1 = 0 ∧ r.2.2.2.1 = 0) ∧ (2 ≤ s → r.2.2.2.2 = [])) ∧ (r.1 ≠ 0 → r.1 ≤ 6 ∧ r.2.1 ≤ n)
theorem bp_num {β : Nat → Nat} {n s p lo hi : Nat} (hp : p ≤ n) (hs : 3 ≤ s) (hs2 : s < 10) (hc : ∀ v, lo ≤ v → v ≤ hi → clOK (s, v, 0)) : BP β n s p (if nmB β n p lo hi = 0 then (0, tE β n p, tN β n p, 0, []) else (nmB β n p lo hi, tS β n p, 0, 0, [])) := by
  have hpos := tok_pos (β := β) hp
  have hm := nmB_le β n p lo hi
  by_cases q : nmB β n p lo hi = 0
  · rw [if_pos q]
    obtain ⟨k1, k2, k3⟩ := nmB_0 q
    exact ⟨fun _ => ⟨by show p ≤ tE β n p; omega, hpos.2.2.1, by show p + 0 ≤ tE β n p; omega, hc _ k2 k3, fun z => absurd z (by omega), fun _ => rfl⟩, fun z => absurd rfl z⟩
  · rw [if_neg q]
    exact ⟨fun z => absurd z q, fun _ => ⟨by show nmB β n p lo hi ≤ 6; omega, by show tS β n p ≤ n; omega⟩⟩
theorem body_ok {β : Nat → Nat} {n s p : Nat} (hb : ∀ i, i < 300 → β i < 256) (hn : n ≤ 300) (hp : p ≤ n) (hs : s < 10) (c : List (Nat × Nat)) : ∃ r, BC β n s p c r ∧ BM β n s p c r ∧ BP β n s p r := by
  have hpos := tok_pos (β := β) hp
  by_cases h2 : s < 2
  · obtain ⟨o, ho⟩ := (parts_ok hb hn h2 n p (by omega) hp 0 (by omega)).2.2.1
    refine ⟨_, bc_law hp hn h2 ho, bm_law hp hn h2 ho, fun z => ?_, ho.2.2.2⟩
    obtain ⟨p1, p2, p3, p4, p5, p6⟩ := ho.2.2.1 z
    refine ⟨by show p ≤ o.2.1; omega, p2, p3, ⟨hs, ?_, ?_, ?_, ?_⟩, fun _ => ⟨p4 [], p5, rfl, rfl⟩, fun y => absurd y (by omega)⟩
    · intro y; have y : s = 2 := y; omega
    · intro y; have y : s = 3 := y; omega
    · intro y; have y : 4 ≤ s ∧ s ≤ 7 := y; omega
    · intro y; have y : s = 9 := y; omega
  by_cases e2 : s = 2
  · subst e2
    refine ⟨_, bc_cord hp hn, bm_cord hp hn, ?_⟩
    have p1 := tok_pos (β := β) hpos.2.2.1
    have p2 := tok_pos (β := β) p1.2.2.1
    have m1 := nmB_le β n p 1 60
    have m2 := nmB_le β n (tE β n (tE β n p)) 0 99
    unfold cdO
    by_cases q1 : nmB β n p 1 60 ≠ 0
    · rw [if_pos q1]
      exact ⟨fun z => absurd z q1, fun _ => ⟨by show nmB β n p 1 60 ≤ 6; omega, by show tS β n p ≤ n; omega⟩⟩
    rw [if_neg q1]
    by_cases q2 : tT β n (tE β n p) ≠ 5
    · rw [if_pos q2]
      exact ⟨fun z => absurd z (by omega), fun _ => ⟨by show 1 ≤ 6; omega, by show tS β n (tE β n p) ≤ n; omega⟩⟩
    rw [if_neg q2]
    by_cases q3 : nmB β n (tE β n (tE β n p)) 0 99 ≠ 0
    · rw [if_pos q3]
      exact ⟨fun z => absurd z q3, fun _ => ⟨by show nmB β n (tE β n (tE β n p)) 0 99 ≤ 6; omega, by show tS β n (tE β n (tE β n p)) ≤ n; omega⟩⟩
    rw [if_neg q3]
    obtain ⟨-, a1, a2⟩ := nmB_0 (Classical.not_not.mp q1)
    obtain ⟨-, a3, a4⟩ := nmB_0 (Classical.not_not.mp q3)
    refine ⟨fun _ => ⟨by show p ≤ tE β n (tE β n (tE β n p)); omega, p2.2.2.1, by show p + 0 ≤ tE β n (tE β n (tE β n p)); omega, ⟨by show 2 < 10; omega, fun _ => ⟨a1, a2, a4⟩, ?_, ?_, ?_⟩, fun z => absurd z (by omega), fun _ => rfl⟩, fun z => absurd rfl z⟩
    · intro y; have y : (2 : Nat) = 3 := y; omega
    · intro y; have y : 4 ≤ 2 ∧ 2 ≤ 7 := y; omega
    · intro y; have y : (2 : Nat) = 9 := y; omega
  by_cases e3 : s = 3
  · subst e3
    refine ⟨_, bc_num hp hn (by omega) (by omega) (by omega) ra_hands, bm_num hp hn (by omega) (by omega) (by omega) mb_hands, bp_num hp (by omega) (by omega) (fun v v1 v2 => ⟨by show 3 < 10; omega, ?_, fun _ => ⟨v1, v2⟩, ?_, ?_⟩)⟩
    · intro y; have y : (3 : Nat) = 2 := y; omega
    · intro y; have y : 4 ≤ 3 ∧ 3 ≤ 7 := y; omega
    · intro y; have y : (3 : Nat) = 9 := y; omega
  by_cases e8 : s = 8
  · subst e8
    refine ⟨_, bc_burn, bm_burn, fun _ => ⟨Nat.le_refl _, hp, Nat.le_refl _, ⟨by show 8 < 10; omega, ?_, ?_, ?_, ?_⟩, fun z => absurd z (by omega), fun _ => rfl⟩, fun z => absurd rfl z⟩
    · intro y; have y : (8 : Nat) = 2 := y; omega
    · intro y; have y : (8 : Nat) = 3 := y; omega
    · intro y; have y : 4 ≤ 8 ∧ 8 ≤ 7 := y; omega
    · intro y; have y : (8 : Nat) = 9 := y; omega
  by_cases e9 : s = 9
  · subst e9
    refine ⟨_, bc_num hp hn (by omega) (by omega) (by omega) ra_minute, bm_num hp hn (by omega) (by omega) (by omega) mb_minute, bp_num hp (by omega) (by omega) (fun v v1 v2 => ⟨by show 9 < 10; omega, ?_, ?_, ?_, fun _ => ⟨v1, v2⟩⟩)⟩
    · intro y; have y : (9 : Nat) = 2 := y; omega
    · intro y; have y : (9 : Nat) = 3 := y; omega
    · intro y; have y : 4 ≤ 9 ∧ 9 ≤ 7 := y; omega
  have h4 : 4 ≤ s ∧ s ≤ 7 := by omega
  refine ⟨_, bc_num hp hn (by omega) (by omega) (by omega) (ra_four h4.1 h4.2), bm_num hp hn (by omega) (by omega) (by omega) (mb_four h4.1 h4.2), bp_num hp (by omega) (by omega) (fun v v1 v2 => ⟨hs, ?_, ?_, fun _ => v2, ?_⟩)⟩
  · intro y; have y : s = 2 := y; omega
  · intro y; have y : s = 3 := y; omega
  · intro y; have y : s = 9 := y; omega
/-! What a text holds so far. -/
def LawW (K : List (Nat × Nat × Nat)) (c : List (Nat × Nat)) (b e : Nat → Nat) (l : Nat) : Prop :=
  (∃ k, k < K.length ∧ (K.getD k z3).1 = l ∧ (∀ j, j < k → (K.getD j z3).1 ≠ l) ∧ b l < e l ∧ e l ≤ 294 ∧ e l ≤ c.length ∧ tyR (fun i => c.getD i (0, 0)) (e l - b l) (b l) [] = some [true] ∧ ∀ i, b l ≤ i → i < e l → (c.getD i (0, 0)).1 = 1 → (c.getD i (0, 0)).2 < 7 ∧ (l = 1 → (c.getD i (0, 0)).2 ≠ 6))
  ∨ ((∀ k, k < K.length → (K.getD k z3).1 ≠ l) ∧ b l = 0 ∧ e l = 0)
def WTx (K : List (Nat × Nat × Nat)) (c : List (Nat × Nat)) (b e : Nat → Nat) : Prop := K.length ≤ 24 ∧ (∀ k, k < K.length → clOK (K.getD k z3)) ∧ LawW K c b e 0 ∧ LawW K c b e 1
theorem tyR_congr {K K2 : Nat → Nat × Nat} : ∀ (k i : Nat) (s : List Bool), (∀ j, i ≤ j → j < i + k → K j = K2 j) → tyR K k i s = tyR K2 k i s := by
  intro k
  induction k with
  | zero => intro i s _; rfl
  | succ k ih =>
    intro i s h
    unfold tyR
    rw [h i (Nat.le_refl _) (by omega)]
    cases tyE (K2 i) s with
    | none => rfl
    | some u => rw [Option.bind_some, Option.bind_some]; exact ih (i + 1) u (fun j j1 j2 => h j (by omega) (by omega))
theorem LawW_keep {K : List (Nat × Nat × Nat)} {c ec : List (Nat × Nat)} {b e b2 e2 : Nat → Nat} {l : Nat} {x : Nat × Nat × Nat} (h : LawW K c b e l) (hx : x.1 ≠ l) (hb : b2 l = b l) (he : e2 l = e l) : LawW (K ++ [x]) (c ++ ec) b2 e2 l := by
  unfold LawW
  rw [hb, he]
  rcases h with ⟨k, k1, k2, k3, k4, k5, k6, k7, k8⟩ | ⟨k1, k2, k3⟩
  · refine Or.inl ⟨k, by rw [List.length_append]; omega, by rw [getD_app_l _ _ _ k1]; exact k2, fun j hj => by rw [getD_app_l _ _ _ (by omega)]; exact k3 j hj, k4, k5, by rw [List.length_append]; omega, ?_, fun i i1 i2 => ?_⟩
    · rw [← k7]
      exact tyR_congr _ _ _ (fun j j1 j2 => getD_app_l _ _ _ (by omega))
    · rw [getD_app_l _ _ _ (by omega)]; exact k8 i i1 i2
  · refine Or.inr ⟨fun k hk => ?_, k2, k3⟩
    rw [List.length_append, List.length_singleton] at hk
    by_cases z : k = K.length
    · subst z; rw [getD_app_s]; exact hx
    · rw [getD_app_l _ _ _ (by omega)]; exact k1 k (by omega)
theorem getD_app_r {α : Type} (l m : List α) (x : α) (i : Nat) : (l ++ m).getD (l.length + i) x = m.getD i x := by
  rw [List.getD_eq_getElem?_getD, List.getD_eq_getElem?_getD, List.getElem?_append_right (by omega), Nat.add_sub_cancel_left]
theorem LawW_new {K : List (Nat × Nat × Nat)} {c ec : List (Nat × Nat)} {b2 e2 : Nat → Nat} {l : Nat} (hno : ∀ k, k < K.length → (K.getD k z3).1 ≠ l) (hb : b2 l = c.length) (he : e2 l = c.length + ec.length) (h294 : c.length + ec.length ≤ 294) (ht : tyL ec [] = some [true]) (hnm : nmOK l ec) : LawW (K ++ [(l, 0, 0)]) (c ++ ec) b2 e2 l := by
  have hne : ec.length ≠ 0 := fun z => by
    have : ec = [] := List.length_eq_zero_iff.mp z
    rw [this] at ht
    cases ht
  unfold LawW
  rw [hb, he]
  refine Or.inl ⟨K.length, by rw [List.length_append]; simp, by rw [getD_app_s], fun j hj => by rw [getD_app_l _ _ _ hj]; exact hno j hj, by omega, h294, by rw [List.length_append]; omega, ?_, fun i i1 i2 e1 => ?_⟩
  · rw [Nat.add_sub_cancel_left, tyR_L _ ec c.length [] (fun j hj => getD_app_r c ec (0, 0) j)]
    exact ht
  · have ei : (c ++ ec).getD i (0, 0) = ec.getD (i - c.length) (0, 0) := by
      rw [← getD_app_r c ec (0, 0) (i - c.length)]
      congr 1; omega
    rw [ei] at e1 ⊢
    have hm : ec.getD (i - c.length) (0, 0) ∈ ec := by
      rw [List.getD_eq_getElem?_getD, List.getElem?_eq_getElem (show i - c.length < ec.length by omega)]
      exact List.getElem_mem _
    obtain ⟨q1, q2⟩ := hnm _ hm e1
    exact ⟨q1, fun z => q2 (by omega)⟩
/-- the text with one more clause -/
theorem WTx_add {K : List (Nat × Nat × Nat)} {c ec : List (Nat × Nat)} {b e : Nat → Nat} {s x y : Nat} (h : WTx K c b e) (hK : K.length < 24) (hcl : clOK (s, x, y)) (hs2 : 2 ≤ s → ec = []) (hx : s < 2 → x = 0 ∧ y = 0 ∧ ¬ b s < e s ∧ c.length + ec.length ≤ 294 ∧ tyL ec [] = some [true] ∧ nmOK s ec) : WTx (K ++ [(s, x, y)]) (c ++ ec) (bbN b s c.length) (bbN e s (c.length + ec.length)) := by
  obtain ⟨h1, h2, h3, h4⟩ := h
  refine ⟨by rw [List.length_append, List.length_singleton]; omega, fun k hk => ?_, ?_, ?_⟩
  · rw [List.length_append, List.length_singleton] at hk
    by_cases z : k = K.length
    · subst z; rw [getD_app_s]; exact hcl
    · rw [getD_app_l _ _ _ (by omega)]; exact h2 k (by omega)
  · by_cases z : s = 0
    · subst z
      obtain ⟨a1, a2, a3, a4, a5, a6⟩ := hx (by omega)
      subst a1; subst a2
      have hno : ∀ k, k < K.length → (K.getD k z3).1 ≠ 0 := h3.elim (fun ⟨k, _, _, _, k4, _⟩ => absurd k4 a3) (fun h => h.1)
      exact LawW_new hno (by unfold bbN; rw [if_pos (by omega), upn_s]) (by unfold bbN; rw [if_pos (by omega), upn_s]) a4 a5 a6
    · refine LawW_keep h3 z ?_ ?_ <;> (unfold bbN; split; · rw [upn_n _ _ (Ne.symm z)]
                                       · rfl)
  · by_cases z : s = 1
    · subst z
      obtain ⟨a1, a2, a3, a4, a5, a6⟩ := hx (by omega)
      subst a1; subst a2
      have hno : ∀ k, k < K.length → (K.getD k z3).1 ≠ 1 := h4.elim (fun ⟨k, _, _, _, k4, _⟩ => absurd k4 a3) (fun h => h.1)
      exact LawW_new hno (by unfold bbN; rw [if_pos (by omega), upn_s]) (by unfold bbN; rw [if_pos (by omega), upn_s]) a4 a5 a6
    · refine LawW_keep h4 z ?_ ?_ <;> (unfold bbN; split; · rw [upn_n _ _ (Ne.symm z)]
                                       · rfl)
theorem LawW_seen {K : List (Nat × Nat × Nat)} {c : List (Nat × Nat)} {b e : Nat → Nat} {l : Nat} (h : LawW K c b e l) : (b l < e l ∧ e l ≤ 294) ∨ (b l = 0 ∧ e l = 0 ∧ ∀ k, k < K.length → (K.getD k z3).1 ≠ l) := by
  rcases h with ⟨k, k1, k2, k3, k4, k5, k6, k7, k8⟩ | ⟨k1, k2, k3⟩
  · exact Or.inl ⟨k4, k5⟩
  · exact Or.inr ⟨k2, k3, k1⟩
/-- a law's word has five letters or more -/
theorem law_len {β : Nat → Nat} {n p : Nat} (h : tT β n p = 2 ∨ tT β n p = 3) : tS β n p + 5 ≤ tE β n p := by
  have h : tTs β n (tS β n p) = 2 ∨ tTs β n (tS β n p) = 3 := h
  show tS β n p + 5 ≤ tEs β n (tS β n p)
  generalize tS β n p = s at *
  unfold tTs at h
  unfold tEs
  by_cases c1 : byt β n s = 256
  · rw [if_pos c1] at h; omega
  rw [if_neg c1] at h ⊢
  by_cases c2 : ltr (byt β n s) = true
  · rw [if_pos c2] at h ⊢
    rw [wdE_len]
    rcases h with h | h
    · have e := (tW_iff (k := 2) (by omega) (by omega)).mp h
      rw [e]
      have : (wK 2).length = 6 := by decide
      omega
    · have e := (tW_iff (k := 3) (by omega) (by omega)).mp h
      rw [e]
      have : (wK 3).length = 5 := by decide
      omega
  rw [if_neg c2] at h
  by_cases c3 : dgt (byt β n s) = true
  · rw [if_pos c3] at h; omega
  rw [if_neg c3] at h
  by_cases c4 : sgC (byt β n s) = true
  · rw [if_pos c4] at h
    have := sgC_rng c4
    split at h
    · split at h <;> omega
    · omega
  · rw [if_neg c4] at h; omega

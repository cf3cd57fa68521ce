/-! The class, as it reads: where it stands, or that it failed. -/
def frC (T q j : Nat) : Prop := (q = 271 ∧ 2 ≤ j ∧ j ≤ 8) ∨ (q = T ∧ j = 5) ∨ q = T + 4
def CSt (β : Nat → Nat) (n L T p d : Nat) (c : List (Nat × Nat)) (ν : Nm) : Prop := CTk β n p ν ∧ (gi ν 271 2 = nI 0 ∧ gi ν 271 3 = -1) ∧ gi ν 271 8 = nI d ∧ gi ν 271 9 = nI L ∧ gx ν = T ∧ gi ν T 5 = nI c.length ∧ ∀ i, i < c.length → gi ν (T + 4) i = itm (c.getD i (0, 0))
def CFl (T f pl : Nat) (ν : Nm) : Prop := gi ν 271 2 = nI f ∧ gi ν 271 3 = nI pl ∧ gi ν 271 5 = nI 131 ∧ gx ν = T ∧ ∃ k, k ≤ 300 ∧ gi ν T 5 = nI k
def okT (T : Nat) : Prop := T = 285 ∨ T = 292 ∨ T = 299 ∨ T = 306
theorem okT_z {T : Nat} (h : okT T) : zkT T = true := by
  rcases h with rfl | rfl | rfl | rfl <;> decide
theorem CTk_keep {β : Nat → Nat} {n p : Nat} {ν ν2 : Nm} (h : CTk β n p ν) (k1 : ∀ j, j ≤ 7 → j ≠ 2 → j ≠ 3 → gi ν2 271 j = gi ν 271 j) (k2 : ∀ i, gi ν2 272 i = gi ν 272 i) : CTk β n p ν2 := by
  obtain ⟨h1, h2, h3, h4, h5⟩ := h
  exact ⟨TpC_keep h1 (k1 1 (by omega) (by omega) (by omega)) k2, by rw [k1 _ (by omega) (by omega) (by omega)]; exact h2, by rw [k1 _ (by omega) (by omega) (by omega)]; exact h3, by rw [k1 _ (by omega) (by omega) (by omega)]; exact h4, fun q => by rw [k1 _ (by omega) (by omega) (by omega)]; exact h5 q⟩
theorem cs_next {β : Nat → Nat} {n L T p d : Nat} {c : List (Nat × Nat)} {ν : Nm} (hT : okT T) (hp : p ≤ n) (h : CSt β n L T p d c ν) : ∃ ν2, Rd_next ν = some ν2 ∧ CSt β n L T (tE β n p) d c ν2 ∧ Fr (frC T) ν ν2 := by
  unfold okT at hT
  obtain ⟨h1, h2, h3, h4, h5, h6, h7⟩ := h
  obtain ⟨ν2, e1, e2, e3, e4⟩ := c_tok (tok_pos hp).2.2.1 h1.1 h1.2.1
  refine ⟨ν2, e1, ⟨e2, ?_, ?_, ?_, by rw [e4]; exact h5, ?_, fun i hi => ?_⟩, Fr_mono e3 (fun q j m => Or.inl ⟨m.1, by have := m.2; omega⟩)⟩
  · exact ⟨by rw [e3.1 _ _ (by unfold frT; omega)]; exact h2.1, by rw [e3.1 _ _ (by unfold frT; omega)]; exact h2.2⟩
  · rw [e3.1 _ _ (by unfold frT; omega)]; exact h3
  · rw [e3.1 _ _ (by unfold frT; omega)]; exact h4
  · rw [e3.1 _ _ (by unfold frT; omega)]; exact h6
  · rw [e3.1 _ _ (by unfold frT; omega)]; exact h7 i hi
theorem cs_fail {β : Nat → Nat} {n L T p d : Nat} {c : List (Nat × Nat)} {ν : Nm} (hT : okT T) (h : CSt β n L T p d c ν) (hc : c.length ≤ 300) (f : Nat) : ∃ ν2, Rd_fail (nI f) ν = some ν2 ∧ CFl T f (tS β n p) ν2 ∧ Fr (frC T) ν ν2 := by
  unfold okT at hT
  obtain ⟨h1, h2, h3, h4, h5, h6, h7⟩ := h
  unfold Rd_fail Rd_fail_20
  rw [if_neg (fun z => z h2.1)]
  have F : Fr (frC T) ν (si (si (si (si ν 271 2 (nI f)) 271 3 (gi (si ν 271 2 (nI f)) 271 6)) 271 4 (gi (si (si ν 271 2 (nI f)) 271 3 (gi (si ν 271 2 (nI f)) 271 6)) 271 1)) 271 5 131) := Fr_si (Fr_si (Fr_si (Fr_si (Fr_rfl _ _) _ (Or.inl ⟨rfl, by omega, by omega⟩)) _ (Or.inl ⟨rfl, by omega, by omega⟩)) _ (Or.inl ⟨rfl, by omega, by omega⟩)) _ (Or.inl ⟨rfl, by omega, by omega⟩)
  refine ⟨_, rfl, ⟨?_, ?_, ?_, h5, c.length, hc, ?_⟩, F⟩
  · rw [gi_si_j _ _ _ (by omega), gi_si_j _ _ _ (by omega), gi_si_j _ _ _ (by omega), gi_si_s]
  · rw [gi_si_j _ _ _ (by omega), gi_si_j _ _ _ (by omega), gi_si_s, gi_si_j _ _ _ (by omega)]; exact h1.2.2.2.1
  · rw [gi_si_s]; rfl
  · rw [gi_si_q _ _ _ _ (by omega), gi_si_q _ _ _ _ (by omega), gi_si_q _ _ _ _ (by omega), gi_si_q _ _ _ _ (by omega)]; exact h6
theorem cf_fail {T f pl : Nat} {ν : Nm} (hT : okT T) (hf : f ≠ 0) (hf2 : f < 2 ^ 31) (h : CFl T f pl ν) (g : Int32) : ∃ ν2, Rd_fail g ν = some ν2 ∧ CFl T f pl ν2 ∧ Fr (frC T) ν ν2 := by
  unfold okT at hT
  obtain ⟨h1, h2, h3, h4, k, hk, h5⟩ := h
  unfold Rd_fail Rd_fail_20
  rw [if_pos (by rw [h1, show (0 : Int32) = nI 0 from rfl, nI_eq' hf2 (by omega)]; exact hf)]
  refine ⟨_, rfl, ⟨?_, ?_, ?_, h4, k, hk, ?_⟩, Fr_si (Fr_si (Fr_rfl _ _) _ (Or.inl ⟨rfl, by omega, by omega⟩)) _ (Or.inl ⟨rfl, by omega, by omega⟩)⟩
  · rw [gi_si_j _ _ _ (by omega), gi_si_j _ _ _ (by omega)]; exact h1
  · rw [gi_si_j _ _ _ (by omega), gi_si_j _ _ _ (by omega)]; exact h2
  · rw [gi_si_s]; rfl
  · rw [gi_si_q _ _ _ _ (by omega), gi_si_q _ _ _ _ (by omega)]; exact h5
theorem cs_add {β : Nat → Nat} {n L T p d : Nat} {c : List (Nat × Nat)} {ν : Nm} (hT : okT T) (h : CSt β n L T p d c ν) (hc : c.length < 300) (x : Nat × Nat) : ∃ ν2, Tx_addCode T (itm x) ν = some ν2 ∧ CSt β n L T p d (c ++ [x]) ν2 ∧ Fr (frC T) ν ν2 := by
  unfold okT at hT
  obtain ⟨h1, h2, h3, h4, h5, h6, h7⟩ := h
  unfold Tx_addCode
  rw [h6, if_neg (by rw [show (300 : Int32) = nI 300 from rfl, nI_le' (by omega) (by omega)]; omega), inb_nI (by omega), nI_clamp (by omega), if_pos (by simp; omega), gi_si_q _ _ _ _ (by omega), h6, show nI c.length + 1 = nI (c.length + 1) from nI_add _ 1]
  have F : Fr (frC T) ν (si (si ν (T + 4) c.length (itm x)) T 5 (nI (c.length + 1))) := Fr_si (Fr_si (Fr_rfl _ _) _ (Or.inr (Or.inr rfl))) _ (Or.inr (Or.inl ⟨rfl, rfl⟩))
  have k : ∀ q j, q = 271 ∨ q = 272 → gi (si (si ν (T + 4) c.length (itm x)) T 5 (nI (c.length + 1))) q j = gi ν q j := fun q j hq => by rw [gi_si_q _ _ _ _ (by omega), gi_si_q _ _ _ _ (by omega)]
  refine ⟨_, rfl, ⟨CTk_keep h1 (fun j _ _ _ => k _ _ (by omega)) (fun i => k _ _ (by omega)), ⟨by rw [k _ _ (by omega)]; exact h2.1, by rw [k _ _ (by omega)]; exact h2.2⟩, by rw [k _ _ (by omega)]; exact h3, by rw [k _ _ (by omega)]; exact h4, h5, by rw [gi_si_s, List.length_append]; rfl, fun i hi => ?_⟩, F⟩
  rw [List.length_append, List.length_singleton] at hi
  rw [gi_si_q _ _ _ _ (by omega)]
  by_cases z : i = c.length
  · subst z
    rw [getD_app_s, gi_si_s]
  · rw [getD_app_l _ _ _ (by omega), gi_si_j _ _ _ z]
    exact h7 i (by omega)
theorem cf_add {T f pl : Nat} {ν : Nm} (hT : okT T) (h : CFl T f pl ν) (v : Int32) : ∃ ν2, Tx_addCode T v ν = some ν2 ∧ CFl T f pl ν2 ∧ Fr (frC T) ν ν2 := by
  have h0 := h
  unfold okT at hT
  obtain ⟨h1, h2, h3, h4, k, hk, h5⟩ := h
  unfold Tx_addCode
  rw [h5]
  by_cases z : 300 ≤ k
  · rw [if_pos (by rw [show (300 : Int32) = nI 300 from rfl, nI_le' (by omega) (by omega)]; omega)]
    exact ⟨ν, rfl, h0, Fr_rfl _ _⟩
  · rw [if_neg (by rw [show (300 : Int32) = nI 300 from rfl, nI_le' (by omega) (by omega)]; omega), inb_nI (by omega), nI_clamp (by omega), if_pos (by simp; omega), gi_si_q _ _ _ _ (by omega), h5, show nI k + 1 = nI (k + 1) from nI_add _ 1]
    refine ⟨_, rfl, ⟨?_, ?_, ?_, h4, k + 1, by omega, gi_si_s _ _ _ _⟩, Fr_si (Fr_si (Fr_rfl _ _) _ (Or.inr (Or.inr rfl))) _ (Or.inr (Or.inl ⟨rfl, rfl⟩))⟩
    · rw [gi_si_q _ _ _ _ (by omega), gi_si_q _ _ _ _ (by omega)]; exact h1
    · rw [gi_si_q _ _ _ _ (by omega), gi_si_q _ _ _ _ (by omega)]; exact h2
    · rw [gi_si_q _ _ _ _ (by omega), gi_si_q _ _ _ _ (by omega)]; exact h3
theorem tT_le {β : Nat → Nat} {n p : Nat} {ν : Nm} (hb : ∀ i, i < 300 → β i < 256) (hn : n ≤ 300) : tT β n p ≤ 131 := by
  show tTs β n (tS β n p) ≤ 131
  generalize tS β n p = s
  unfold tTs
  by_cases c1 : byt β n s = 256
  · rw [if_pos c1]; omega
  rw [if_neg c1]
  by_cases c2 : ltr (byt β n s) = true
  · rw [if_pos c2]
    rcases tW_rng (wdL β n 300 s) with z | z <;> omega
  rw [if_neg c2]
  by_cases c3 : dgt (byt β n s) = true
  · rw [if_pos c3]; omega
  rw [if_neg c3]
  by_cases c4 : sgC (byt β n s) = true
  · rw [if_pos c4]
    have := sgC_rng c4
    repeat' split
    all_goals omega
  · rw [if_neg c4]; omega
theorem CTk_le {β : Nat → Nat} {n p : Nat} {ν : Nm} (h : CTk β n p ν) : tT β n p ≤ 131 := tT_le (ν := ν) (fun i hi => (h.1.2.2 i hi).1) h.1.1
theorem cs_expect {β : Nat → Nat} {n L T p d : Nat} {c : List (Nat × Nat)} {ν : Nm} (hT : okT T) (hp : p ≤ n) (h : CSt β n L T p d c ν) (hc : c.length ≤ 300) {k : Nat} (hk : k ≤ 131) : ∃ ν2, Rd_expect (nI k) ν = some ν2 ∧ (if tT β n p = k then CSt β n L T (tE β n p) d c ν2 else CFl T 1 (tS β n p) ν2) ∧ Fr (frC T) ν ν2 := by
  unfold Rd_expect
  have hle := CTk_le h.1
  rw [h.1.2.2.1]
  by_cases z : tT β n p = k
  · rw [if_neg (by rw [z]; exact fun y => y rfl)]
    obtain ⟨ν2, e1, e2, e3⟩ := cs_next hT hp h
    exact ⟨ν2, by rw [e1]; rfl, by rw [if_pos z]; exact e2, e3⟩
  · rw [if_pos (by rw [nI_eq' (by omega) (by omega)]; exact z)]
    obtain ⟨ν2, e1, e2, e3⟩ := cs_fail hT h hc 1
    exact ⟨ν2, by rw [show (1 : Int32) = nI 1 from rfl, e1]; rfl, by rw [if_neg z]; exact e2, e3⟩
theorem cf_expect {T f pl : Nat} {ν : Nm} (hT : okT T) (hf : f ≠ 0) (hf2 : f < 2 ^ 31) (h : CFl T f pl ν) {k : Nat} (hk : k < 131) : ∃ ν2, Rd_expect (nI k) ν = some ν2 ∧ CFl T f pl ν2 ∧ Fr (frC T) ν ν2 := by
  unfold Rd_expect
  rw [h.2.2.1, if_pos (by rw [nI_eq' (by omega) (by omega)]; omega)]
  obtain ⟨ν2, e1, e2, e3⟩ := cf_fail hT hf hf2 h 1
  exact ⟨ν2, by rw [e1]; rfl, e2, e3⟩
theorem cs_dec {β : Nat → Nat} {n L T p d : Nat} {c : List (Nat × Nat)} {ν : Nm} (hT : okT T) (h : CSt β n L T p (d + 1) c ν) : CSt β n L T p d c (si ν 271 8 (gi ν 271 8 - 1)) ∧ Fr (frC T) ν (si ν 271 8 (gi ν 271 8 - 1)) := by
  unfold okT at hT
  obtain ⟨h1, h2, h3, h4, h5, h6, h7⟩ := h
  refine ⟨⟨CTk_keep h1 (fun j h _ _ => gi_si_j _ _ _ (by omega)) (fun i => gi_si_q _ _ _ _ (by omega)), ?_, ?_, ?_, h5, ?_, fun i hi => ?_⟩, Fr_si (Fr_rfl _ _) _ (Or.inl ⟨rfl, by omega, by omega⟩)⟩
  · exact ⟨by rw [gi_si_j _ _ _ (by omega)]; exact h2.1, by rw [gi_si_j _ _ _ (by omega)]; exact h2.2⟩
  · rw [gi_si_s, h3, nS1]
  · rw [gi_si_j _ _ _ (by omega)]; exact h4
  · rw [gi_si_q _ _ _ _ (by omega)]; exact h6
  · rw [gi_si_q _ _ _ _ (by omega)]; exact h7 i hi
theorem cf_dec {T f pl : Nat} {ν : Nm} (hT : okT T) (h : CFl T f pl ν) (v : Int32) : CFl T f pl (si ν 271 8 v) ∧ Fr (frC T) ν (si ν 271 8 v) := by
  unfold okT at hT
  obtain ⟨h1, h2, h3, h4, k, hk, h5⟩ := h
  refine ⟨⟨?_, ?_, ?_, h4, k, hk, ?_⟩, Fr_si (Fr_rfl _ _) _ (Or.inl ⟨rfl, by omega, by omega⟩)⟩
  · rw [gi_si_j _ _ _ (by omega)]; exact h1
  · rw [gi_si_j _ _ _ (by omega)]; exact h2
  · rw [gi_si_j _ _ _ (by omega)]; exact h3
  · rw [gi_si_q _ _ _ _ (by omega)]; exact h5
/-- something opens -/
theorem cs_opens {β : Nat → Nat} {n L T p d : Nat} {c : List (Nat × Nat)} {ν : Nm} (hT : okT T) (hp : p ≤ n) (h : CSt β n L T p d c ν) (hc : c.length ≤ 300) (hd : d ≤ 8) : ∃ ν2, (if d = 8 then Rd_opens ν = some (false, ν2) ∧ CFl T 3 (tS β n p) ν2 else Rd_opens ν = some (true, ν2) ∧ CSt β n L T (tE β n p) (d + 1) c ν2) ∧ Fr (frC T) ν ν2 := by
  have h0 := h
  have hT0 := hT
  unfold okT at hT
  obtain ⟨h1, h2, h3, h4, h5, h6, h7⟩ := h
  unfold Rd_opens
  rw [h3]
  by_cases z : d = 8
  · rw [if_neg (by rw [z]; decide)]
    obtain ⟨ν2, e1, e2, e3⟩ := cs_fail hT0 h0 hc 3
    exact ⟨ν2, by rw [if_pos z]; exact ⟨by rw [show (3 : Int32) = nI 3 from rfl, e1]; rfl, e2⟩, e3⟩
  · rw [if_pos (by rw [show (8 : Int32) = nI 8 from rfl, nI_lt' (by omega) (by omega)]; omega), show nI d + 1 = nI (d + 1) from nI_add d 1]
    have S1 : CSt β n L T p (d + 1) c (si ν 271 8 (nI (d + 1))) := by
      refine ⟨CTk_keep h1 (fun j h _ _ => gi_si_j _ _ _ (by omega)) (fun i => gi_si_q _ _ _ _ (by omega)), ?_, gi_si_s _ _ _ _, ?_, h5, ?_, fun i hi => ?_⟩
      · exact ⟨by rw [gi_si_j _ _ _ (by omega)]; exact h2.1, by rw [gi_si_j _ _ _ (by omega)]; exact h2.2⟩
      · rw [gi_si_j _ _ _ (by omega)]; exact h4
      · rw [gi_si_q _ _ _ _ (by omega)]; exact h6
      · rw [gi_si_q _ _ _ _ (by omega)]; exact h7 i hi
    obtain ⟨ν2, e1, e2, e3⟩ := cs_next hT0 hp S1
    have f1 : Fr (frC T) ν (si ν 271 8 (nI (d + 1))) := Fr_si (Fr_rfl _ _) _ (Or.inl ⟨rfl, by omega, by omega⟩)
    exact ⟨ν2, by rw [if_neg z]; exact ⟨by rw [e1]; rfl, e2⟩, Fr_tr f1 e3⟩

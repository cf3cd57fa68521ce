/-! Clauses: the class. -/
def z3 : Nat × Nat × Nat := (0, 0, 0)
def XC (T : Nat) (K : List (Nat × Nat × Nat)) (b e : Nat → Nat) (ν : Nm) : Prop := gi ν T 3 = nI K.length ∧ (∀ k, k < K.length → gi ν (T + 1) k = nI (kdK (K.getD k z3).1) ∧ (2 ≤ (K.getD k z3).1 → (K.getD k z3).1 ≠ 8 → gi ν (T + 2) k = nI (K.getD k z3).2.1) ∧ ((K.getD k z3).1 = 2 → gi ν (T + 3) k = nI (K.getD k z3).2.2)) ∧ ∀ l, l < 2 → gi ν (T + 5) l = nI (b l) ∧ gi ν (T + 6) l = nI (e l)
def CC (β : Nat → Nat) (n L T p : Nat) (K : List (Nat × Nat × Nat)) (c : List (Nat × Nat)) (b e : Nat → Nat) (ν : Nm) : Prop := CSt β n L T p 0 c ν ∧ XC T K b e ν
def CFK (T f pl : Nat) (ν : Nm) : Prop := CFl T f pl ν ∧ ∃ k, k ≤ 24 ∧ gi ν T 3 = nI k
def frK (T q j : Nat) : Prop := (q = 271 ∧ 2 ≤ j ∧ j ≤ 9) ∨ (T ≤ q ∧ q < T + 7)
theorem frCK {T q j : Nat} (h : frC T q j) : frK T q j := by unfold frC at h; unfold frK; omega
theorem XC_keep {T : Nat} {K : List (Nat × Nat × Nat)} {b e : Nat → Nat} {ν ν2 : Nm} (hT : okT T) (h : XC T K b e ν) (f : Fr (frC T) ν ν2) : XC T K b e ν2 := by
  unfold okT at hT
  obtain ⟨h1, h2, h3⟩ := h
  refine ⟨by rw [f.1 _ _ (by unfold frC; omega)]; exact h1, fun k hk => ⟨?_, fun a1 a2 => ?_, fun a1 => ?_⟩, fun l hl => ⟨?_, ?_⟩⟩
  · rw [f.1 _ _ (by unfold frC; omega)]; exact (h2 k hk).1
  · rw [f.1 _ _ (by unfold frC; omega)]; exact (h2 k hk).2.1 a1 a2
  · rw [f.1 _ _ (by unfold frC; omega)]; exact (h2 k hk).2.2 a1
  · rw [f.1 _ _ (by unfold frC; omega)]; exact (h3 l hl).1
  · rw [f.1 _ _ (by unfold frC; omega)]; exact (h3 l hl).2
theorem XC_K {T f pl : Nat} {K : List (Nat × Nat × Nat)} {b e : Nat → Nat} {ν ν2 : Nm} (hT : okT T) (hK : K.length ≤ 24) (h : XC T K b e ν) (fr : Fr (frC T) ν ν2) (h2 : CFl T f pl ν2) : CFK T f pl ν2 := ⟨h2, K.length, hK, (XC_keep hT h fr).1⟩
/-- a clause is added -/
theorem c_addClause {β : Nat → Nat} {n L T p : Nat} {K : List (Nat × Nat × Nat)} {c : List (Nat × Nat)} {b e : Nat → Nat} {ν : Nm} (hT : okT T) (h : CC β n L T p K c b e ν) (hK : K.length < 24) (s x y : Nat) : ∃ ν2, Tx_addClause T (nI (kdK s)) (nI x) (nI y) ν = some ν2 ∧ CC β n L T p (K ++ [(s, x, y)]) c b e ν2 ∧ Fr (frK T) ν ν2 := by
  unfold okT at hT
  obtain ⟨⟨h1, h2, h3, h4, h5, h6, h7⟩, g1, g2, g3⟩ := h
  unfold Tx_addClause Tx_addClause_39
  have k1 : ∀ (ν3 : Nm) (q j : Nat) (v : Int32), q ≠ T → gi (si ν3 q j v) T 3 = gi ν3 T 3 := fun ν3 q j v hq => gi_si_q _ _ _ _ (Ne.symm hq)
  rw [k1 _ (T + 3) _ _ (by omega), k1 _ (T + 2) _ _ (by omega), k1 _ (T + 1) _ _ (by omega), g1, if_neg (by rw [show (24 : Int32) = nI 24 from rfl, nI_le' (by omega) (by omega)]; omega), inb_nI (by omega), nI_clamp (by omega), if_pos (by simp; omega), if_pos (by simp; omega), if_pos (by simp; omega), show nI K.length + 1 = nI (K.length + 1) from nI_add _ 1]
  have F : Fr (frK T) ν (si (si (si (si ν (T + 1) K.length (nI (kdK s))) (T + 2) K.length (nI x)) (T + 3) K.length (nI y)) T 3 (nI (K.length + 1))) := Fr_si (Fr_si (Fr_si (Fr_si (Fr_rfl _ _) _ (Or.inr (by omega))) _ (Or.inr (by omega))) _ (Or.inr (by omega))) _ (Or.inr (by omega))
  have k : ∀ q j, q < T ∨ T + 3 < q ∨ (q = T ∧ j ≠ 3) → gi (si (si (si (si ν (T + 1) K.length (nI (kdK s))) (T + 2) K.length (nI x)) (T + 3) K.length (nI y)) T 3 (nI (K.length + 1))) q j = gi ν q j := fun q j hq => by rw [gi_si, if_neg (by omega), gi_si_q _ _ _ _ (by omega), gi_si_q _ _ _ _ (by omega), gi_si_q _ _ _ _ (by omega)]
  refine ⟨_, rfl, ⟨⟨CTk_keep h1 (fun j _ _ _ => k _ _ (by omega)) (fun i => k _ _ (by omega)), ⟨by rw [k _ _ (by omega)]; exact h2.1, by rw [k _ _ (by omega)]; exact h2.2⟩, by rw [k _ _ (by omega)]; exact h3, by rw [k _ _ (by omega)]; exact h4, h5, by rw [k _ _ (by omega)]; exact h6, fun i hi => by rw [k _ _ (by omega)]; exact h7 i hi⟩, by rw [gi_si_s, List.length_append]; rfl, fun j hj => ?_, fun l hl => ⟨by rw [k _ _ (by omega)]; exact (g3 l hl).1, by rw [k _ _ (by omega)]; exact (g3 l hl).2⟩⟩, F⟩
  rw [List.length_append, List.length_singleton] at hj
  by_cases z : j = K.length
  · subst z
    rw [getD_app_s]
    refine ⟨?_, fun _ _ => ?_, fun _ => ?_⟩
    · rw [gi_si_q _ _ _ _ (by omega), gi_si_q _ _ _ _ (by omega), gi_si_q _ _ _ _ (by omega), gi_si_s]
    · rw [gi_si_q _ _ _ _ (by omega), gi_si_q _ _ _ _ (by omega), gi_si_s]
    · rw [gi_si_q _ _ _ _ (by omega), gi_si_s]
  · rw [getD_app_l _ _ _ (by omega)]
    obtain ⟨a1, a2, a3⟩ := g2 j (by omega)
    refine ⟨?_, fun b1 b2 => ?_, fun b1 => ?_⟩
    · rw [gi_si_q _ _ _ _ (by omega), gi_si_q _ _ _ _ (by omega), gi_si_q _ _ _ _ (by omega), gi_si_j _ _ _ z]; exact a1
    · rw [gi_si_q _ _ _ _ (by omega), gi_si_q _ _ _ _ (by omega), gi_si_j _ _ _ z, gi_si_q _ _ _ _ (by omega)]; exact a2 b1 b2
    · rw [gi_si_q _ _ _ _ (by omega), gi_si_j _ _ _ z, gi_si_q _ _ _ _ (by omega), gi_si_q _ _ _ _ (by omega)]; exact a3 b1
theorem f_addClause {T f pl : Nat} {ν : Nm} (hT : okT T) (h : CFK T f pl ν) (u x y : Int32) : ∃ ν2, Tx_addClause T u x y ν = some ν2 ∧ CFK T f pl ν2 ∧ Fr (frK T) ν ν2 := by
  have h0 := h
  unfold okT at hT
  obtain ⟨⟨h1, h2, h3, h4, i, hi, h5⟩, k, hk, g1⟩ := h
  unfold Tx_addClause Tx_addClause_39
  have k1 : ∀ (ν3 : Nm) (q j : Nat) (v : Int32), q ≠ T → gi (si ν3 q j v) T 3 = gi ν3 T 3 := fun ν3 q j v hq => gi_si_q _ _ _ _ (Ne.symm hq)
  rw [k1 _ (T + 3) _ _ (by omega), k1 _ (T + 2) _ _ (by omega), k1 _ (T + 1) _ _ (by omega), g1]
  by_cases z : 24 ≤ k
  · rw [if_pos (by rw [show (24 : Int32) = nI 24 from rfl, nI_le' (by omega) (by omega)]; omega)]
    exact ⟨ν, rfl, h0, Fr_rfl _ _⟩
  · rw [if_neg (by rw [show (24 : Int32) = nI 24 from rfl, nI_le' (by omega) (by omega)]; omega), inb_nI (by omega), nI_clamp (by omega), if_pos (by simp; omega), if_pos (by simp; omega), if_pos (by simp; omega), show nI k + 1 = nI (k + 1) from nI_add _ 1]
    have F : Fr (frK T) ν (si (si (si (si ν (T + 1) k u) (T + 2) k x) (T + 3) k y) T 3 (nI (k + 1))) := Fr_si (Fr_si (Fr_si (Fr_si (Fr_rfl _ _) _ (Or.inr (by omega))) _ (Or.inr (by omega))) _ (Or.inr (by omega))) _ (Or.inr (by omega))
    have kk : ∀ q j, q < T ∨ T + 3 < q ∨ (q = T ∧ j ≠ 3) → gi (si (si (si (si ν (T + 1) k u) (T + 2) k x) (T + 3) k y) T 3 (nI (k + 1))) q j = gi ν q j := fun q j hq => by rw [gi_si, if_neg (by omega), gi_si_q _ _ _ _ (by omega), gi_si_q _ _ _ _ (by omega), gi_si_q _ _ _ _ (by omega)]
    exact ⟨_, rfl, ⟨⟨by rw [kk _ _ (by omega)]; exact h1, by rw [kk _ _ (by omega)]; exact h2, by rw [kk _ _ (by omega)]; exact h3, h4, i, hi, by rw [kk _ _ (by omega)]; exact h5⟩, k + 1, by omega, gi_si_s _ _ _ _⟩, F⟩
/-- a number within bounds -/
def nmB (β : Nat → Nat) (n p lo hi : Nat) : Nat := if tT β n p = 1 then (if lo ≤ tN β n p ∧ tN β n p ≤ hi then 0 else 2) else 1
theorem nmB_le (β : Nat → Nat) (n p lo hi : Nat) : nmB β n p lo hi ≤ 2 := by
  unfold nmB
  repeat' split
  all_goals omega
theorem c_number {β : Nat → Nat} {n L T p d lo hi : Nat} {c : List (Nat × Nat)} {ν : Nm} (hT : okT T) (hp : p ≤ n) (hn : n ≤ 300) (h : CSt β n L T p d c ν) (hc : c.length ≤ 300) (hh : hi < 10000) (hlh : lo ≤ hi) : ∃ v ν2, Rd_readNumber (nI lo) (nI hi) ν = some (v, ν2) ∧ (nmB β n p lo hi = 0 → v = nI (tN β n p) ∧ CSt β n L T (tE β n p) d c ν2) ∧ (nmB β n p lo hi ≠ 0 → CFl T (nmB β n p lo hi) (tS β n p) ν2) ∧ Fr (frC T) ν ν2 := by
  have hle := CTk_le h.1
  unfold Rd_readNumber nmB
  rw [h.1.2.2.1]
  by_cases q : tT β n p = 1
  · rw [if_pos (by rw [q]; rfl), if_pos q, h.1.2.2.2.2 q, within_isIn]
    by_cases q2 : lo ≤ tN β n p ∧ tN β n p ≤ hi
    · obtain ⟨ν2, e1, e2, e3⟩ := cs_next hT hp h
      rw [show min 10000 (tN β n p) = tN β n p by omega, isIn_t q2.1 q2.2 (by omega), Option.bind_some, if_pos (by rw [b2iT]; exact id), e1, Option.bind_some, if_pos q2]
      exact ⟨_, ν2, rfl, fun _ => ⟨rfl, e2⟩, fun z => absurd rfl z, e3⟩
    · obtain ⟨ν2, e1, e2, e3⟩ := cs_fail hT h hc 2
      rw [isIn_f (fun k h1 h2 e => by rw [nI_eq' (by omega) (by omega)] at e; omega) (by omega) (by omega), Option.bind_some, if_neg (by rw [b2iF]; exact fun z => z True.intro), show (2 : Int32) = nI 2 from rfl, e1, Option.bind_some, if_neg q2]
      exact ⟨_, ν2, rfl, fun z => absurd z (by omega), fun _ => e2, e3⟩
  · obtain ⟨ν2, e1, e2, e3⟩ := cs_fail hT h hc 1
    rw [if_neg (by rw [show (1 : Int32) = nI 1 from rfl, nI_eq' (by omega) (by omega)]; exact q), if_neg q, show (1 : Int32) = nI 1 from rfl, e1, Option.bind_some]
    exact ⟨_, ν2, rfl, fun z => absurd z (by omega), fun _ => e2, e3⟩
theorem f_number {T f pl : Nat} {ν : Nm} (hT : okT T) (hf : f ≠ 0) (hf2 : f < 2 ^ 31) (h : CFl T f pl ν) (lo hi : Int32) : ∃ v ν2, Rd_readNumber lo hi ν = some (v, ν2) ∧ CFl T f pl ν2 ∧ Fr (frC T) ν ν2 := by
  unfold Rd_readNumber
  obtain ⟨ν2, e1, e2, e3⟩ := cf_fail hT hf hf2 h 1
  rw [cf_131' h, if_neg (by decide), e1, Option.bind_some]
  exact ⟨_, ν2, rfl, e2, e3⟩
/-- what stands behind a clause's first word: fault, place, two numbers, code -/
abbrev Bo : Type := Nat × Nat × Nat × Nat × List (Nat × Nat)
def bbN (b : Nat → Nat) (s v : Nat) : Nat → Nat := if s < 2 then upn b s v else b
/-- what the class does of a law's clause ahead of its sign ';' -/
def Rd_readLaw_26 (x1 : Int32) (ν : Nm) : Option Nm :=
  (G_rd FR 0 0 ν).bind fun v1 =>
  if zkT (gx v1) then
  if zkT (gx v1) then
  if inb (gi v1 271 9) 2 then
  if zkT (gx (si v1 ((gx v1) + 6) (gi v1 271 9).toNatClampNeg (gi v1 (gx v1) 5))) then
  (Tx_addClause (gx (si v1 ((gx v1) + 6) (gi v1 271 9).toNatClampNeg (gi v1 (gx v1) 5))) x1 (0 : Int32) (0 : Int32) (si v1 ((gx v1) + 6) (gi v1 271 9).toNatClampNeg (gi v1 (gx v1) 5))).bind fun v6 =>
  some v6
  else none
  else none
  else none
  else none
def Rd_readLaw (x1 : Int32) (ν : Nm) : Option Nm :=
  if zkT (gx (si ν 271 9 (x1 - (2 : Int32)))) then
  if zkT (gx (si ν 271 9 (x1 - (2 : Int32)))) then
  if inb (gi (si ν 271 9 (x1 - (2 : Int32))) 271 9) 2 then
  Rd_readLaw_26 x1 (si (si ν 271 9 (x1 - (2 : Int32))) ((gx (si ν 271 9 (x1 - (2 : Int32)))) + 5) (gi (si ν 271 9 (x1 - (2 : Int32))) 271 9).toNatClampNeg (gi (si ν 271 9 (x1 - (2 : Int32))) (gx (si ν 271 9 (x1 - (2 : Int32)))) 5))
  else none
  else none
  else none
def BC (β : Nat → Nat) (n s p : Nat) (c : List (Nat × Nat)) (r : Bo) : Prop := ∀ (T L : Nat) (K : List (Nat × Nat × Nat)) (b e : Nat → Nat) (ν : Nm), okT T → CC β n L T p K c b e ν → K.length < 24 → c.length ≤ p → ∃ ν2, (if s < 2 then Rd_readLaw (nI (kdK s)) ν else Rd_readAct (nI (kdK s)) ν) = some ν2 ∧ (r.1 = 0 → ∃ L2, CC β n L2 T r.2.1 (K ++ [(s, r.2.2.1, r.2.2.2.1)]) (c ++ r.2.2.2.2) (bbN b s c.length) (bbN e s (c.length + r.2.2.2.2.length)) ν2) ∧ (r.1 ≠ 0 → CFK T r.1 r.2.1 ν2) ∧ Fr (frK T) ν ν2
theorem rA80 {T : Nat} {ν : Nm} (hT : okT T) (hx : gx ν = T) (x y z : Int32) : Rd_readAct_80 x y z ν = Tx_addClause T x y z ν := by
  unfold Rd_readAct_80
  rw [hx, if_pos (okT_z hT)]
  cases Tx_addClause T x y z ν <;> rfl
theorem bb_2 {b : Nat → Nat} {s v : Nat} (h : 2 ≤ s) : bbN b s v = b := by unfold bbN; rw [if_neg (by omega)]
/-- one number -/
theorem bc_num {β : Nat → Nat} {n s p lo hi : Nat} {c : List (Nat × Nat)} (hp : p ≤ n) (hn : n ≤ 300) (hs : 2 ≤ s) (hh : hi < 10000) (hlh : lo ≤ hi) (hr : ∀ ν, Rd_readAct (nI (kdK s)) ν = (Rd_readNumber (nI lo) (nI hi) ν).bind fun v => Rd_readAct_80 (nI (kdK s)) v.1 0 v.2) : BC β n s p c (if nmB β n p lo hi = 0 then (0, tE β n p, tN β n p, 0, []) else (nmB β n p lo hi, tS β n p, 0, 0, [])) := by
  intro T L K b e ν hT hC hK hl
  rw [if_neg (by omega), hr]
  obtain ⟨v, ν2, a1, a2, a3, a4⟩ := c_number hT hp hn hC.1 (by omega) hh hlh
  rw [a1, Option.bind_some]
  by_cases q : nmB β n p lo hi = 0
  · obtain ⟨b1, b2⟩ := a2 q
    have hx : gx ν2 = T := b2.2.2.2.2.1
    obtain ⟨ν3, d1, d2, d3⟩ := c_addClause hT (⟨b2, XC_keep hT hC.2 a4⟩ : CC β n L T (tE β n p) K c b e ν2) hK s (tN β n p) 0
    rw [if_pos q]
    refine ⟨ν3, ?_, fun _ => ⟨L, ?_⟩, fun z => absurd rfl z, Fr_tr (Fr_mono a4 (fun q j m => frCK m)) d3⟩
    · show Rd_readAct_80 (nI (kdK s)) v 0 ν2 = some ν3
      rw [b1, rA80 hT hx]; exact d1
    · rw [bb_2 hs, bb_2 hs, List.append_nil]; exact d2
  · have b2 := a3 q
    have hx : gx ν2 = T := b2.2.2.2.1
    obtain ⟨ν3, d1, d2, d3⟩ := f_addClause hT (XC_K hT (by omega) hC.2 a4 b2) (nI (kdK s)) v 0
    rw [if_neg q]
    refine ⟨ν3, ?_, fun z => absurd z q, fun _ => d2, Fr_tr (Fr_mono a4 (fun q j m => frCK m)) d3⟩
    show Rd_readAct_80 (nI (kdK s)) v 0 ν2 = some ν3
    rw [rA80 hT hx]; exact d1
theorem ra_hands (ν : Nm) : Rd_readAct (nI (kdK 3)) ν = (Rd_readNumber (nI 1) (nI 8) ν).bind fun v => Rd_readAct_80 (nI (kdK 3)) v.1 0 v.2 := by
  unfold Rd_readAct
  rw [if_pos (by decide), if_neg (by decide)]; rfl
theorem ra_minute (ν : Nm) : Rd_readAct (nI (kdK 9)) ν = (Rd_readNumber (nI 1) (nI 60) ν).bind fun v => Rd_readAct_80 (nI (kdK 9)) v.1 0 v.2 := by
  unfold Rd_readAct
  rw [if_pos (by decide), if_pos (by decide), if_neg (by decide)]; rfl
theorem ra_four {s : Nat} (h1 : 4 ≤ s) (h2 : s ≤ 7) (ν : Nm) : Rd_readAct (nI (kdK s)) ν = (Rd_readNumber (nI 0) (nI 3) ν).bind fun v => Rd_readAct_80 (nI (kdK s)) v.1 0 v.2 := by
  unfold Rd_readAct
  rcases (show s = 4 ∨ s = 5 ∨ s = 6 ∨ s = 7 by omega) with rfl | rfl | rfl | rfl <;> rw [if_pos (by decide), if_pos (by decide), if_pos (by decide), if_neg (by decide)] <;> rfl
theorem bc_burn {β : Nat → Nat} {n p : Nat} {c : List (Nat × Nat)} : BC β n 8 p c (0, p, 0, 0, []) := by
  intro T L K b e ν hT hC hK hl
  have hx : gx ν = T := hC.1.2.2.2.2.1
  obtain ⟨ν3, d1, d2, d3⟩ := c_addClause hT hC hK 8 0 0
  refine ⟨ν3, ?_, fun _ => ⟨L, ?_⟩, fun z => absurd rfl z, d3⟩
  · rw [if_neg (by omega)]
    unfold Rd_readAct
    rw [if_pos (by decide), if_pos (by decide), if_pos (by decide), if_pos (by decide), rA80 hT hx]
    exact d1
  · rw [bb_2 (by omega), bb_2 (by omega), List.append_nil]; exact d2
/-- a cord: minutes, price -/
def cdO (β : Nat → Nat) (n p : Nat) : Bo :=
  if nmB β n p 1 60 ≠ 0 then (nmB β n p 1 60, tS β n p, 0, 0, [])
  else if tT β n (tE β n p) ≠ 5 then (1, tS β n (tE β n p), 0, 0, [])
  else if nmB β n (tE β n (tE β n p)) 0 99 ≠ 0 then (nmB β n (tE β n (tE β n p)) 0 99, tS β n (tE β n (tE β n p)), 0, 0, [])
  else (0, tE β n (tE β n (tE β n p)), tN β n p, tN β n (tE β n (tE β n p)), [])
theorem bc_cord {β : Nat → Nat} {n p : Nat} {c : List (Nat × Nat)} (hp : p ≤ n) (hn : n ≤ 300) : BC β n 2 p c (cdO β n p) := by
  intro T L K b e ν hT hC hK hl
  have p1 := (tok_pos (β := β) hp).2.2.1
  have p2 := (tok_pos (β := β) p1).2.2.1
  have hnm : ∀ q lo hi, nmB β n q lo hi < 2 ^ 31 := fun q lo hi => by have := nmB_le β n q lo hi; omega
  rw [if_neg (by omega)]
  have e0 : Rd_readAct (nI (kdK 2)) ν = (Rd_readNumber (nI 1) (nI 60) ν).bind fun v8 => (Rd_expect (nI 5) v8.2).bind fun v9 => (Rd_readNumber (nI 0) (nI 99) v9).bind fun v10 => Rd_readAct_80 (nI (kdK 2)) v8.1 v10.1 v10.2 := by
    unfold Rd_readAct
    rw [if_neg (by decide)]; rfl
  rw [e0]
  obtain ⟨v, ν2, a1, a2, a3, a4⟩ := c_number (lo := 1) (hi := 60) hT hp hn hC.1 (by omega) (by omega) (by omega)
  rw [a1, Option.bind_some]
  have cK : ∀ {f pl : Nat} {ν3 : Nm}, CFl T f pl ν3 → Fr (frC T) ν ν3 → ∀ (x y z : Int32), ∃ ν4, Rd_readAct_80 x y z ν3 = some ν4 ∧ CFK T f pl ν4 ∧ Fr (frK T) ν ν4 := fun {f pl ν3} h3 fr x y z => by
    obtain ⟨ν4, d1, d2, d3⟩ := f_addClause hT (XC_K hT (by omega) hC.2 fr h3) x y z
    exact ⟨ν4, by rw [rA80 hT h3.2.2.2.1]; exact d1, d2, Fr_tr (Fr_mono fr (fun q j m => frCK m)) d3⟩
  unfold cdO
  by_cases q1 : nmB β n p 1 60 ≠ 0
  · have b2 := a3 q1
    obtain ⟨ν3, d1, d2, d3⟩ := cf_expect hT q1 (hnm _ _ _) b2 (k := 5) (by omega)
    obtain ⟨v4, ν4, g1, g2, g3⟩ := f_number hT q1 (hnm _ _ _) d2 (nI 0) (nI 99)
    obtain ⟨ν5, i1, i2, i3⟩ := cK g2 (Fr_tr a4 (Fr_tr d3 g3)) (nI (kdK 2)) v v4
    rw [if_pos q1]
    exact ⟨ν5, by rw [d1, Option.bind_some, g1, Option.bind_some]; exact i1, fun z => absurd z q1, fun _ => i2, i3⟩
  · rw [if_neg q1]
    obtain ⟨b1, b2⟩ := a2 (Classical.not_not.mp q1)
    obtain ⟨ν3, d1, d2, d3⟩ := cs_expect hT p1 b2 (by omega) (k := 5) (by omega)
    rw [d1, Option.bind_some]
    by_cases q2 : tT β n (tE β n p) ≠ 5
    · rw [if_neg q2] at d2
      rw [if_pos q2]
      obtain ⟨v4, ν4, g1, g2, g3⟩ := f_number hT (by omega) (by omega) d2 (nI 0) (nI 99)
      obtain ⟨ν5, i1, i2, i3⟩ := cK g2 (Fr_tr a4 (Fr_tr d3 g3)) (nI (kdK 2)) v v4
      exact ⟨ν5, by rw [g1, Option.bind_some]; exact i1, fun z => absurd z (by omega), fun _ => i2, i3⟩
    · rw [if_pos (Classical.not_not.mp q2)] at d2
      rw [if_neg q2]
      obtain ⟨v4, ν4, g1, g2, g3, g4⟩ := c_number (lo := 0) (hi := 99) hT p2 hn d2 (by omega) (by omega) (by omega)
      rw [g1, Option.bind_some]
      by_cases q3 : nmB β n (tE β n (tE β n p)) 0 99 ≠ 0
      · rw [if_pos q3]
        obtain ⟨ν5, i1, i2, i3⟩ := cK (g3 q3) (Fr_tr a4 (Fr_tr d3 g4)) (nI (kdK 2)) v v4
        exact ⟨ν5, i1, fun z => absurd z q3, fun _ => i2, i3⟩
      · rw [if_neg q3]
        obtain ⟨h1, h2⟩ := g2 (Classical.not_not.mp q3)
        have hx : gx ν4 = T := h2.2.2.2.2.1
        obtain ⟨ν5, i1, i2, i3⟩ := c_addClause hT (⟨h2, XC_keep hT hC.2 (Fr_tr a4 (Fr_tr d3 g4))⟩ : CC β n L T _ K c b e ν4) hK 2 (tN β n p) (tN β n (tE β n (tE β n p)))
        refine ⟨ν5, ?_, fun _ => ⟨L, ?_⟩, fun z => absurd rfl z, Fr_tr (Fr_mono (Fr_tr a4 (Fr_tr d3 g4)) (fun q j m => frCK m)) i3⟩
        · show Rd_readAct_80 (nI (kdK 2)) v v4 ν4 = some ν5
          rw [b1, h1, rA80 hT hx]; exact i1
        · rw [bb_2 (by omega), bb_2 (by omega), List.append_nil]; exact i2
/-- a law -/
theorem bc_law {β : Nat → Nat} {n s p : Nat} {c : List (Nat × Nat)} (hp : p ≤ n) (hn : n ≤ 300) (hs : s < 2) {o : Oc} (h : GdS β n s p 0 o) : BC β n s p c (o.1, o.2.1, 0, 0, o.2.2) := by
  intro T L K b e ν hT hC hK hl
  have hT0 := hT
  obtain ⟨G, -, P⟩ := h
  obtain ⟨⟨h1, h2, h3, h4, h5, h6, h7⟩, g1, g2, g3⟩ := hC
  unfold okT at hT
  rw [if_pos hs]
  have ek : nI (kdK s) - (2 : Int32) = nI s := by
    rcases (show s = 0 ∨ s = 1 by omega) with rfl | rfl <;> decide
  unfold Rd_readLaw
  rw [ek, gi_si_s, gx_si, h5, gi_si_q _ _ _ _ (show T ≠ 271 by omega), h6, if_pos (okT_z hT0), if_pos (okT_z hT0), inb_nI (by omega), nI_clamp (by omega), if_pos (by simp; omega)]
  unfold Rd_readLaw_26
  have F1 : Fr (frK T) ν (si (si ν 271 9 (nI s)) (T + 5) s (nI c.length)) := Fr_si (Fr_si (Fr_rfl _ _) _ (Or.inl ⟨rfl, by omega, by omega⟩)) _ (Or.inr (by omega))
  have k : ∀ q j, (q ≠ 271 ∨ j ≠ 9) → q ≠ T + 5 → gi (si (si ν 271 9 (nI s)) (T + 5) s (nI c.length)) q j = gi ν q j := fun q j hq hq2 => by rw [gi_si_q _ _ _ _ hq2, gi_si, if_neg (by omega)]
  have S1 : CSt β n s T p 0 c (si (si ν 271 9 (nI s)) (T + 5) s (nI c.length)) := ⟨CTk_keep h1 (fun j _ _ _ => k _ _ (by omega) (by omega)) (fun i => k _ _ (by omega) (by omega)), ⟨by rw [k _ _ (by omega) (by omega)]; exact h2.1, by rw [k _ _ (by omega) (by omega)]; exact h2.2⟩, by rw [k _ _ (by omega) (by omega)]; exact h3, by rw [gi_si_q _ _ _ _ (by omega), gi_si_s], h5, by rw [k _ _ (by omega) (by omega)]; exact h6, fun i hi => by rw [k _ _ (by omega) (by omega)]; exact h7 i hi⟩
  have X1 : XC T K (upn b s c.length) e (si (si ν 271 9 (nI s)) (T + 5) s (nI c.length)) := by
    refine ⟨by rw [k _ _ (by omega) (by omega)]; exact g1, fun j hj => ⟨by rw [k _ _ (by omega) (by omega)]; exact (g2 j hj).1, fun a1 a2 => by rw [k _ _ (by omega) (by omega)]; exact (g2 j hj).2.1 a1 a2, fun a1 => by rw [k _ _ (by omega) (by omega)]; exact (g2 j hj).2.2 a1⟩, fun l hl => ⟨?_, by rw [k _ _ (by omega) (by omega)]; exact (g3 l hl).2⟩⟩
    by_cases z : l = s
    · subst z; rw [gi_si_s, upn_s]
    · rw [gi_si_j _ _ _ z, upn_n _ _ z, gi_si_q _ _ _ _ (by omega)]; exact (g3 l hl).1
  obtain ⟨v1, a1, a2, a3⟩ := G FR (by unfold FR; omega) T c _ hT0 S1 hl
  have X2 := XC_keep hT0 X1 a3
  have F2 : Fr (frK T) ν v1 := Fr_tr F1 (Fr_mono a3 (fun q j m => frCK m))
  have x9 : gi v1 271 9 = nI s := by rw [a3.1 _ _ (by unfold frC; omega), gi_si_q _ _ _ _ (by omega), gi_si_s]
  rw [a1, Option.bind_some]
  by_cases q : o.1 = 0
  · have b1 := a2.1 q
    have hx : gx v1 = T := b1.2.2.2.2.1
    have hlen : (c ++ o.2.2).length = c.length + o.2.2.length := List.length_append
    rw [gx_si, hx, if_pos (okT_z hT0), if_pos (okT_z hT0), x9, inb_nI (by omega), nI_clamp (by omega), if_pos (by simp; omega), if_pos (okT_z hT0), b1.2.2.2.2.2.1, hlen]
    have k2 : ∀ q j, q ≠ T + 6 → gi (si v1 (T + 6) s (nI (c.length + o.2.2.length))) q j = gi v1 q j := fun q j hq2 => gi_si_q _ _ _ _ hq2
    have C3 : CC β n s T o.2.1 K (c ++ o.2.2) (upn b s c.length) (upn e s (c.length + o.2.2.length)) (si v1 (T + 6) s (nI (c.length + o.2.2.length))) := by
      obtain ⟨i1, i2, i3, i4, i5, i6, i7⟩ := b1
      obtain ⟨j1, j2, j3⟩ := X2
      refine ⟨⟨CTk_keep i1 (fun j _ _ _ => k2 _ _ (by omega)) (fun i => k2 _ _ (by omega)), ⟨by rw [k2 _ _ (by omega)]; exact i2.1, by rw [k2 _ _ (by omega)]; exact i2.2⟩, by rw [k2 _ _ (by omega)]; exact i3, by rw [k2 _ _ (by omega)]; exact i4, i5, by rw [k2 _ _ (by omega)]; exact i6, fun i hi => by rw [k2 _ _ (by omega)]; exact i7 i hi⟩, by rw [k2 _ _ (by omega)]; exact j1, fun j hj => ⟨by rw [k2 _ _ (by omega)]; exact (j2 j hj).1, fun a1 a2 => by rw [k2 _ _ (by omega)]; exact (j2 j hj).2.1 a1 a2, fun a1 => by rw [k2 _ _ (by omega)]; exact (j2 j hj).2.2 a1⟩, fun l hl => ⟨by rw [k2 _ _ (by omega)]; exact (j3 l hl).1, ?_⟩⟩
      by_cases z : l = s
      · subst z; rw [gi_si_s, upn_s]
      · rw [gi_si_j _ _ _ z, upn_n _ _ z]; exact (j3 l hl).2
    obtain ⟨v6, d1, d2, d3⟩ := c_addClause hT0 C3 hK s 0 0
    refine ⟨v6, ?_, fun _ => ⟨s, ?_⟩, fun z => absurd q z, Fr_tr (Fr_si F2 _ (Or.inr (by omega))) d3⟩
    · rw [show (0 : Int32) = nI 0 from rfl, d1]; rfl
    · unfold bbN
      rw [if_pos hs, if_pos hs]; exact d2
  · have b1 := a2.2 q
    have hx : gx v1 = T := b1.2.2.2.1
    obtain ⟨j1, j2, j3, j4, i, hi, j5⟩ := b1
    rw [gx_si, hx, if_pos (okT_z hT0), if_pos (okT_z hT0), x9, inb_nI (by omega), nI_clamp (by omega), if_pos (by simp; omega), if_pos (okT_z hT0)]
    have k2 : ∀ (q j : Nat) (w : Int32), q ≠ T + 6 → gi (si v1 (T + 6) s w) q j = gi v1 q j := fun q j w hq2 => gi_si_q _ _ _ _ hq2
    have C3 : ∀ w, CFK T o.1 o.2.1 (si v1 (T + 6) s w) := fun w => ⟨⟨by rw [k2 _ _ _ (by omega)]; exact j1, by rw [k2 _ _ _ (by omega)]; exact j2, by rw [k2 _ _ _ (by omega)]; exact j3, hx, i, hi, by rw [k2 _ _ _ (by omega)]; exact j5⟩, K.length, by omega, by rw [k2 _ _ _ (by omega)]; exact X2.1⟩
    obtain ⟨v6, d1, d2, d3⟩ := f_addClause hT0 (C3 (gi v1 T 5)) (nI (kdK s)) 0 0
    exact ⟨v6, by rw [d1]; rfl, fun z => absurd z q, fun _ => d2, Fr_tr (Fr_si F2 _ (Or.inr (by omega))) d3⟩

/-! The model's machine for sums, on lists. -/
theorem m_settle {t l : Nat} (hl1 : 1 ≤ l) (hl7 : l < 2 ^ 31) {X : List Nat} {c : List (Nat × Nat)} {ν : Nm} (hP : PLr X ν) (hC : CDr t c ν) (hs : c.length + X.length ≤ 300) : ∃ ν2, Md_settle (nI l) ν = some ν2 ∧ PLr (stl l X c).1 ν2 ∧ CDr t (stl l X c).2 ν2 ∧ Fr (frS t) ν ν2 :=
  m_settle0 hl1 hl7 X c FU ν (by unfold FU; omega) hP hC hs
theorem stl_len (l : Nat) : ∀ (X : List Nat) (c : List (Nat × Nat)), (stl l X c).2.length + (stl l X c).1.length = c.length + X.length := by
  intro X
  induction X with
  | nil => intro c; rfl
  | cons o X ih =>
    intro c
    unfold stl
    by_cases q : rk o < l
    · rw [if_pos q]
    · rw [if_neg q, ih, List.length_append, List.length_singleton, List.length_cons]; omega
theorem stl_le (l : Nat) : ∀ (X : List Nat) (c : List (Nat × Nat)), (stl l X c).1.length ≤ X.length := by
  intro X
  induction X with
  | nil => intro c; exact Nat.le_refl _
  | cons o X ih =>
    intro c
    unfold stl
    by_cases q : rk o < l
    · rw [if_pos q]; exact Nat.le_refl _
    · rw [if_neg q, List.length_cons]; have := ih (c ++ [(o, 0)]); omega
theorem stl_1 : ∀ (X : List Nat) (c : List (Nat × Nat)), opn X ≠ 0 → ∃ B, (stl 1 X c).1 = opn X :: B := by
  intro X
  induction X with
  | nil => intro c h; exact absurd rfl h
  | cons o X ih =>
    intro c h
    unfold opn at h
    unfold stl opn
    by_cases q : 40 ≤ o
    · rw [if_pos q, if_pos ((rk_0 o).mpr q)]; exact ⟨X, rfl⟩
    · rw [if_neg q] at h
      rw [if_neg q, if_neg (fun z => q ((rk_0 o).mp z))]
      exact ih _ h
abbrev Ms : Type := Bool × Nat × List Nat × List (Nat × Nat)
def lf (β : Nat → Nat) (n p : Nat) (X : List Nat) (c : List (Nat × Nat)) (x : Nat × Nat) : Ms := (true, tE β n p, (stl 7 X (c ++ [x])).1, (stl 7 X (c ++ [x])).2)
def opd (β : Nat → Nat) (n p : Nat) (X : List Nat) (c : List (Nat × Nat)) (o : Nat) : Option (Nat × Ms) := if cnO X = 8 then some (3, (false, p, X, c)) else if X.length < 160 then some (0, (false, tE β n p, o :: X, c)) else none
def mbeg (β : Nat → Nat) (n L p : Nat) (X : List Nat) (c : List (Nat × Nat)) : Option (Nat × Ms) :=
  if tT β n p = 1 then (if 9999 < tN β n p then some (2, (false, p, X, c)) else some (0, lf β n p X c (0, tN β n p)))
  else if nmT (tT β n p) < 7 then (if tT β n p = 26 ∧ L ≠ 0 then some (5, (false, p, X, c)) else some (0, lf β n p X c (1, nmT (tT β n p))))
  else if tT β n p = 40 then opd β n p X c 40 else if tT β n p = 45 then opd β n p X c 5 else if tT β n p = 13 then opd β n p X c 4 else if tT β n p = 14 then opd β n p X c 2 else if tT β n p = 15 then opd β n p X c 41
  else if tT β n p = 21 ∧ askA X = true then opd β n p X c 20 else some (1, (false, p, X, c))
def btw (T : Nat) (X : List Nat) : Nat := if T = 43 then 6 else if T = 45 then 7 else if T = 42 then 8 else if T = 47 then 9 else if opn X = 41 then (if cmpd X = true then (if T = 20 then 21 else if T = 19 then 22 else 99) else cmpT T) else 99
def prt (T : Nat) (X : List Nat) : Nat := if opn X = 40 then (if T = 41 then 0 else 99) else if opn X = 41 then (if T = 16 ∧ cmpd X = true then 42 else 99) else if opn X = 42 then (if T = 17 then 43 else 99) else if opn X = 43 then (if T = 18 then 0 else 99) else 99
def psh (β : Nat → Nat) (n p : Nat) (X : List Nat) (c : List (Nat × Nat)) (o l : Nat) : Option (Bool × Ms) := if (stl l X c).1.length < 160 then some (true, (false, tE β n p, o :: (stl l X c).1, (stl l X c).2)) else none
def clo (X : List Nat) (c : List (Nat × Nat)) : List Nat × List (Nat × Nat) := stl 7 (stl 1 X c).1.tail (if opn X = 43 then (stl 1 X c).2 ++ [(3, 0)] else (stl 1 X c).2)
def mbeh (β : Nat → Nat) (n p : Nat) (X : List Nat) (c : List (Nat × Nat)) : Option (Bool × Ms) :=
  if btw (tT β n p) X < 99 then psh β n p X c (btw (tT β n p) X) (if rk (btw (tT β n p) X) = 4 then 5 else rk (btw (tT β n p) X))
  else if prt (tT β n p) X = 99 then some (false, (true, p, X, c))
  else if prt (tT β n p) X = 0 then some (true, (true, tE β n p, (clo X c).1, (clo X c).2))
  else some (true, (false, tE β n p, prt (tT β n p) X :: (stl 1 X c).1.tail, (stl 1 X c).2))
def mrun (β : Nat → Nat) (n L : Nat) : Nat → Ms → Option (Nat × Ms)
  | 0, _ => none
  | f + 1, (false, p, X, c) => (mbeg β n L p X c).bind fun r => if r.1 = 0 then mrun β n L f r.2 else some r
  | f + 1, (true, p, X, c) => (mbeh β n p X c).bind fun r => if r.1 = false then (if opn X = 0 then some (0, (true, p, (stl 1 X c).1, (stl 1 X c).2)) else some (1, (true, p, X, c))) else mrun β n L f r.2
/-- the memory holds the machine's state -/
def Rep (β : Nat → Nat) (n t L : Nat) (s : Ms) (ν : Nm) : Prop := MTk β n s.2.1 ν ∧ PLr s.2.2.1 ν ∧ CDr t s.2.2.2 ν ∧ gi ν 313 14 = nI L ∧ gi ν 313 18 = nI (if s.1 = true then 1 else 0) ∧ s.2.2.2.length + s.2.2.1.length ≤ s.2.1 ∧ s.2.1 ≤ n ∧ n ≤ 300
theorem Rep_ex {β : Nat → Nat} {n t L : Nat} {w : Bool} {p : Nat} {X : List Nat} {c : List (Nat × Nat)} {ν : Nm} (h : Rep β n t L (w, p, X, c) ν) : MTk β n p ν ∧ PLr X ν ∧ CDr t c ν ∧ gi ν 313 14 = nI L ∧ gi ν 313 18 = nI (if w = true then 1 else 0) ∧ c.length + X.length ≤ p ∧ p ≤ n ∧ n ≤ 300 := h
def frR (t : Nat) (q j : Nat) : Prop := frM q j ∨ frS t q j ∨ q = 318 ∨ (q = 313 ∧ j = 18)
theorem MTk_keep {β : Nat → Nat} {n p : Nat} {ν ν2 : Nm} (h : MTk β n p ν) (k1 : ∀ j, j = 4 ∨ (7 ≤ j ∧ j ≤ 11) → gi ν2 313 j = gi ν 313 j) (k2 : ∀ i, gi ν2 317 i = gi ν 317 i) (k3 : gl ν2 313 11 = gl ν 313 11) : MTk β n p ν2 := by
  obtain ⟨h1, h2, h3, h4, h5⟩ := h
  exact ⟨TpM_keep h1 (k1 4 (by omega)) k2, by rw [k1 _ (by omega)]; exact h2, fun q => by rw [k1 _ (by omega)]; exact h3 q, fun q => by rw [k1 _ (by omega)]; exact h4 q, by rw [k1 9 (by omega), k3]; exact h5⟩
/-- the next token, when a token has been read that stands on the tape -/
theorem m_adv {β : Nat → Nat} {n p t : Nat} {X : List Nat} {c : List (Nat × Nat)} {ν : Nm} (hM : MTk β n p ν) (hp : p ≤ n) (hT : tT β n p ≠ 0) (hP : PLr X ν) (hC : CDr t c ν) (hc : c.length ≤ 304) : ∃ ν2, Md_nextToken ν = some ν2 ∧ MTk β n (tE β n p) ν2 ∧ PLr X ν2 ∧ CDr t c ν2 ∧ Fr frM ν ν2 := by
  obtain ⟨q1, q2, q3, q4⟩ := tok_pos (β := β) hp
  obtain ⟨ν2, e1, e2, e3⟩ := m_tok q3 hM.1 (hM.2.2.1 hT)
  exact ⟨ν2, e1, e2, PLr_keep hP (e3.1 _ _ (by unfold frM; omega)) (e3.1 _ _ (by unfold frM; omega)) (fun j => e3.1 _ _ (by unfold frM; omega)), CDr_keep hC hc (e3.1 _ _ (by unfold frM; omega)) (e3.1 _ _ (by unfold frM; omega)) (fun j _ _ => e3.1 _ _ (by unfold frM; omega)), e3⟩
theorem MTk_fr {β : Nat → Nat} {n p t : Nat} {ν ν2 : Nm} (h : MTk β n p ν) (f : Fr (frS t) ν ν2) : MTk β n p ν2 := MTk_keep h (fun j hj => f.1 _ _ (by unfold frS frE; omega)) (fun i => f.1 _ _ (by unfold frS frE; omega)) (f.2 _ _ (by unfold frS frE; omega))
theorem MTk_e {β : Nat → Nat} {n p t : Nat} {ν ν2 : Nm} (h : MTk β n p ν) (f : Fr (frE t) ν ν2) : MTk β n p ν2 := MTk_fr h (Fr_mono f (fun q j m => Or.inl m))
theorem PLr_e {t : Nat} {X : List Nat} {ν ν2 : Nm} (h : PLr X ν) (f : Fr (frE t) ν ν2) : PLr X ν2 := PLr_keep h (f.1 _ _ (by unfold frE; omega)) (f.1 _ _ (by unfold frE; omega)) (fun j => f.1 _ _ (by unfold frE; omega))
/-- a leaf -/
theorem m_leaf {β : Nat → Nat} {n t L p : Nat} {X : List Nat} {c : List (Nat × Nat)} {ν : Nm} (h : Rep β n t L (false, p, X, c) ν) (h0 : tT β n p ≠ 0) (h131 : tT β n p ≠ 131) (o v : Nat) : ∃ ν2, Md_beginOne_82 (nI v) (nI o) ν = some (0, ν2) ∧ Rep β n t L (lf β n p X c (o, v)) ν2 ∧ Fr (frR t) ν ν2 := by
  obtain ⟨r1, r2, r3, r4, r5, r6, r7, r8⟩ := Rep_ex h
  obtain ⟨t1, t2, t3, t4⟩ := tok_pos (β := β) r7
  have t4 := t4 h0 h131
  obtain ⟨ν1, a1, a2, a3⟩ := m_emit r3 (by omega) o v
  have hl : (c ++ [(o, v)]).length = c.length + 1 := by rw [List.length_append]; rfl
  obtain ⟨ν2, b1, b2, b3, b4, b5⟩ := m_adv (MTk_e r1 a3) r7 h0 (PLr_e r2 a3) a2 (by omega)
  have P3 : PLr X (si ν2 313 18 1) := PLr_keep b3 (gi_si_j _ _ _ (by omega)) (gi_si_j _ _ _ (by omega)) (fun j => gi_si_q _ _ _ _ (by omega))
  have C3 : CDr t (c ++ [(o, v)]) (si ν2 313 18 1) := CDr_keep b4 (by omega) (gi_si_j _ _ _ (by omega)) (gi_si_j _ _ _ (by omega)) (fun j _ _ => gi_si_q _ _ _ _ (by omega))
  have M3 : MTk β n (tE β n p) (si ν2 313 18 1) := MTk_keep b2 (fun j hj => gi_si_j _ _ _ (by omega)) (fun i => gi_si_q _ _ _ _ (by omega)) rfl
  obtain ⟨ν4, d1, d2, d3, d4⟩ := m_settle (l := 7) (by omega) (by omega) P3 C3 (by omega)
  have hs := stl_len 7 X (c ++ [(o, v)])
  have F : Fr (frR t) ν ν2 := Fr_tr (Fr_mono a3 (fun q j m => Or.inr (Or.inl (Or.inl m)))) (Fr_mono b5 (fun q j m => Or.inl m))
  refine ⟨ν4, ?_, ⟨MTk_fr M3 d4, d2, d3, ?_, ?_, ?_, t3, r8⟩, Fr_tr (Fr_si F _ (Or.inr (Or.inr (Or.inr ⟨rfl, rfl⟩)))) (Fr_mono d4 (fun q j m => Or.inr (Or.inl m)))⟩
  · unfold Md_beginOne_82
    rw [a1, Option.bind_some, b1, Option.bind_some, show (7 : Int32) = nI 7 from rfl, d1, Option.bind_some]
  · rw [d4.1 _ _ (by unfold frS frE; omega), gi_si_j _ _ _ (by omega), b5.1 _ _ (by unfold frM; omega), a3.1 _ _ (by unfold frE; omega)]; exact r4
  · rw [d4.1 _ _ (by unfold frS frE; omega), gi_si_s]; rfl
  · show (stl 7 X (c ++ [(o, v)])).2.length + (stl 7 X (c ++ [(o, v)])).1.length ≤ tE β n p
    omega
/-- something opens -/
theorem m_open {β : Nat → Nat} {n t L p : Nat} {X : List Nat} {c : List (Nat × Nat)} {ν : Nm} (h : Rep β n t L (false, p, X, c) ν) (h0 : tT β n p ≠ 0) (h131 : tT β n p ≠ 131) {o : Nat} (ho : opO o = true) (h44 : o < 44) {r : Nat × Ms} (hr : opd β n p X c o = some r) : ∃ ν2, Md_opened (nI o) ν = some (nI r.1, ν2) ∧ Rep β n t L r.2 ν2 ∧ Fr (frR t) ν ν2 := by
  have h1 := h
  obtain ⟨r1, r2, r3, r4, r5, r6, r7, r8⟩ := Rep_ex h
  obtain ⟨t1, t2, t3, t4⟩ := tok_pos (β := β) r7
  have t4 := t4 h0 h131
  obtain ⟨p1, p2, p3, p4⟩ := r2
  have p1 : gi ν 313 16 = nI X.length := p1
  have p3 : gi ν 313 17 = nI (cnO X) := p3
  have hc := cnO_le X
  unfold opd at hr
  unfold Md_opened
  rw [p3]
  simp only [show (nI (cnO X) = (8 : Int32)) = (cnO X = 8) from nI_eq' (b := 8) (by omega) (by omega)]
  by_cases q : cnO X = 8
  · rw [if_pos q] at hr
    rw [if_neg (fun z => z q)]
    have e := Option.some.inj hr
    subst e
    exact ⟨ν, rfl, h1, Fr_rfl _ _⟩
  · rw [if_neg q] at hr
    rw [if_pos q]
    by_cases q2 : X.length < 160
    · rw [if_pos q2] at hr
      have e := Option.some.inj hr
      subst e
      unfold Md_opened_41
      rw [show nI (cnO X) + (1 : Int32) = nI (cnO X + 1) from nI_add _ 1, gi_si_j _ _ _ (show (16 : Nat) ≠ 17 by omega), p1, inb_nI (by omega), nI_clamp (by omega), if_pos (by simp; omega), gi_si_q _ _ _ _ (show (313 : Nat) ≠ 318 by omega), gi_si_j _ _ _ (show (16 : Nat) ≠ 17 by omega), p1, show nI X.length + (1 : Int32) = nI (X.length + 1) from nI_add _ 1]
      have F : Fr (frR t) ν (si (si (si ν 313 17 (nI (cnO X + 1))) 318 X.length (nI o)) 313 16 (nI (X.length + 1))) := Fr_si (Fr_si (Fr_si (Fr_rfl _ _) _ (Or.inr (Or.inl (Or.inr ⟨rfl, Or.inr rfl⟩)))) _ (Or.inr (Or.inr (Or.inl rfl)))) _ (Or.inr (Or.inl (Or.inr ⟨rfl, Or.inl rfl⟩)))
      have P2 : PLr (o :: X) (si (si (si ν 313 17 (nI (cnO X + 1))) 318 X.length (nI o)) 313 16 (nI (X.length + 1))) := by
        refine ⟨by rw [gi_si_s]; rfl, by rw [List.length_cons]; omega, ?_, ?_, h44, pls_keep (fun j hj => ?_) p4⟩
        · rw [gi_si_j _ _ _ (by omega), gi_si_q _ _ _ _ (by omega), gi_si_s, cnO_1 ho]
        · rw [gi_si_q _ _ _ _ (by omega), gi_si_s]
        · have hj : j < X.length := hj
          rw [gi_si_q _ _ _ _ (by omega), gi_si_j _ _ _ (by omega), gi_si_q _ _ _ _ (by omega)]
      have C2 : CDr t c (si (si (si ν 313 17 (nI (cnO X + 1))) 318 X.length (nI o)) 313 16 (nI (X.length + 1))) := by
        have r3 : CDr t c ν := r3
        refine CDr_keep r3 (by omega) ?_ ?_ (fun j _ _ => ?_)
        · rw [gi_si_j _ _ _ (by omega), gi_si_q _ _ _ _ (by omega), gi_si_j _ _ _ (by omega)]
        · rw [gi_si_j _ _ _ (by omega), gi_si_q _ _ _ _ (by omega), gi_si_j _ _ _ (by omega)]
        · rw [gi_si_q _ _ _ _ (by omega), gi_si_q _ _ _ _ (by omega), gi_si_q _ _ _ _ (by omega)]
      have r1 : MTk β n p ν := r1
      have M2 : MTk β n p (si (si (si ν 313 17 (nI (cnO X + 1))) 318 X.length (nI o)) 313 16 (nI (X.length + 1))) := by
        refine MTk_keep r1 (fun j hj => ?_) (fun i => ?_) rfl
        · rw [gi_si_j _ _ _ (by omega), gi_si_q _ _ _ _ (by omega), gi_si_j _ _ _ (by omega)]
        · rw [gi_si_q _ _ _ _ (by omega), gi_si_q _ _ _ _ (by omega), gi_si_q _ _ _ _ (by omega)]
      obtain ⟨ν2, b1, b2, b3, b4, b5⟩ := m_adv M2 r7 h0 P2 C2 (by omega)
      refine ⟨ν2, by rw [b1, Option.bind_some]; rfl, ⟨b2, b3, b4, ?_, ?_, ?_, t3, r8⟩, Fr_tr F (Fr_mono b5 (fun q j m => Or.inl m))⟩
      · rw [b5.1 _ _ (by unfold frM; omega), gi_si_j _ _ _ (by omega), gi_si_q _ _ _ _ (by omega), gi_si_j _ _ _ (by omega)]; exact r4
      · rw [b5.1 _ _ (by unfold frM; omega), gi_si_j _ _ _ (by omega), gi_si_q _ _ _ _ (by omega), gi_si_j _ _ _ (by omega)]; exact r5
      · show c.length + (o :: X).length ≤ tE β n p
        rw [List.length_cons]; omega
    · rw [if_neg q2] at hr; cases hr

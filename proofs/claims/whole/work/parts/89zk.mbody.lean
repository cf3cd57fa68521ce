/-! Clauses: the model. -/
def frB (t k q j : Nat) : Prop := frR t q j ∨ (q = 316 ∧ (j = 681 * t + 2 + 3 * k ∨ j = 681 * t + 3 + 3 * k))
def BM (β : Nat → Nat) (n s p : Nat) (c : List (Nat × Nat)) (r : Bo) : Prop := ∀ (t k : Nat) (ν : Nm), k < 24 → MTk β n p ν → CDr t c ν → gi ν 313 14 = nI s → c.length ≤ p → ∃ ν2, Md_body (nI s) (nI (681 * t + 1 + 3 * k)) ν = some (nI r.1, ν2) ∧ (r.1 = 0 → MTk β n r.2.1 ν2 ∧ CDr t (c ++ r.2.2.2.2) ν2 ∧ (2 ≤ s → s ≠ 8 → gi ν2 316 (681 * t + 2 + 3 * k) = nI r.2.2.1) ∧ (s = 2 → gi ν2 316 (681 * t + 3 + 3 * k) = nI r.2.2.2.1) ∧ (s < 2 → gi ν2 316 (681 * t + 2 + 3 * k) = nI c.length ∧ gi ν2 316 (681 * t + 3 + 3 * k) = nI (c.length + r.2.2.2.2.length))) ∧ (r.1 ≠ 0 → gi ν2 313 8 = nI r.2.1) ∧ Fr (frB t k) ν ν2
/-- a cell of the text outside its code changes -/
theorem M_cell {β : Nat → Nat} {n p t : Nat} {c : List (Nat × Nat)} {ν : Nm} (hM : MTk β n p ν) (hC : CDr t c ν) (hc : c.length ≤ 304) {x : Nat} (hx : x < 681 * t + 73) (v : Int32) : MTk β n p (si ν 316 x v) ∧ CDr t c (si ν 316 x v) := by
  refine ⟨MTk_keep hM (fun j _ => gi_si_q _ _ _ _ (by omega)) (fun i => gi_si_q _ _ _ _ (by omega)) rfl, CDr_keep hC hc (gi_si_q _ _ _ _ (by omega)) (gi_si_q _ _ _ _ (by omega)) (fun j h1 _ => gi_si_j _ _ _ (by omega))⟩
theorem m_adv2 {β : Nat → Nat} {n p t : Nat} {c : List (Nat × Nat)} {ν : Nm} (hM : MTk β n p ν) (hp : p ≤ n) (hT : tT β n p ≠ 0) (hC : CDr t c ν) (hc : c.length ≤ 304) : ∃ ν2, Md_nextToken ν = some ν2 ∧ MTk β n (tE β n p) ν2 ∧ CDr t c ν2 ∧ Fr frM ν ν2 := by
  obtain ⟨q1, q2, q3, q4⟩ := tok_pos (β := β) hp
  obtain ⟨ν2, e1, e2, e3⟩ := m_tok q3 hM.1 (hM.2.2.1 hT)
  exact ⟨ν2, e1, e2, CDr_keep hC hc (e3.1 _ _ (by unfold frM; omega)) (e3.1 _ _ (by unfold frM; omega)) (fun j _ _ => e3.1 _ _ (by unfold frM; omega)), e3⟩
theorem m_figure {β : Nat → Nat} {n p t lo hi x : Nat} {c : List (Nat × Nat)} {ν : Nm} (hp : p ≤ n) (hn : n ≤ 300) (ht : t < 4) (hM : MTk β n p ν) (hC : CDr t c ν) (hc : c.length ≤ 304) (hx : x < 681 * t + 73) (hh : hi < 10000) (hlh : lo ≤ hi) : ∃ ν2, Md_figure (nI x) (nI lo) (nI hi) ν = some (nI (nmB β n p lo hi), ν2) ∧ (nmB β n p lo hi = 0 → MTk β n (tE β n p) ν2 ∧ CDr t c ν2 ∧ gi ν2 316 x = nI (tN β n p)) ∧ (nmB β n p lo hi ≠ 0 → gi ν2 313 8 = nI (tS β n p)) ∧ Fr (fun q j => frM q j ∨ (q = 316 ∧ j = x)) ν ν2 := by
  have hR := hM.2.2.2.2
  have hN := tN_le β n p
  have e1 : (gi ν 313 9 = (1 : Int32)) = (tT β n p = 1) := tr_eq hR (show (1, 1) ∈ tkL by decide)
  unfold Md_figure nmB
  simp only [e1]
  by_cases q : tT β n p = 1
  · rw [if_pos q, if_pos q, hM.2.2.2.1 q]
    by_cases q2 : lo ≤ tN β n p ∧ tN β n p ≤ hi
    · obtain ⟨M1, C1⟩ := M_cell hM hC hc hx (nI (tN β n p))
      obtain ⟨ν2, a1, a2, a3, a4⟩ := m_adv2 M1 hp (by omega) C1 hc
      rw [if_pos q2, isIn_t q2.1 q2.2 (by omega), Option.bind_some, if_pos (by rw [b2iT]; exact id), inb_nI (by omega), nI_clamp (by omega), if_pos (by simp; omega), a1, Option.bind_some]
      refine ⟨ν2, rfl, fun _ => ⟨a2, a3, ?_⟩, fun z => absurd rfl z, Fr_tr (Fr_si (Fr_rfl _ _) _ (Or.inr ⟨rfl, rfl⟩)) (Fr_mono a4 (fun q j m => Or.inl m))⟩
      rw [a4.1 _ _ (by unfold frM; omega), gi_si_s]
    · rw [if_neg q2, isIn_f (fun k h1 h2 e => by rw [nI_eq' (by omega) (by omega)] at e; omega) (by omega) (by omega), Option.bind_some, if_neg (by rw [b2iF]; exact fun z => z True.intro)]
      exact ⟨ν, rfl, fun z => absurd z (by omega), fun _ => hM.2.1, Fr_rfl _ _⟩
  · rw [if_neg q, if_neg q]
    exact ⟨ν, rfl, fun z => absurd z (by omega), fun _ => hM.2.1, Fr_rfl _ _⟩
/-- one number -/
theorem bm_num {β : Nat → Nat} {n s p lo hi : Nat} {c : List (Nat × Nat)} (hp : p ≤ n) (hn : n ≤ 300) (hs : 3 ≤ s) (hh : hi < 10000) (hlh : lo ≤ hi) (hr : ∀ x ν, Md_body (nI s) x ν = (Md_figure (x + 1) (nI lo) (nI hi) ν).bind fun v => some (v.1, v.2)) : BM β n s p c (if nmB β n p lo hi = 0 then (0, tE β n p, tN β n p, 0, []) else (nmB β n p lo hi, tS β n p, 0, 0, [])) := by
  intro t k ν hk hM hC h14 hl
  have ht := hC.1
  obtain ⟨ν2, a1, a2, a3, a4⟩ := m_figure (lo := lo) (hi := hi) (x := 681 * t + 2 + 3 * k) hp hn ht hM hC (by omega) (by omega) hh hlh
  rw [hr, show nI (681 * t + 1 + 3 * k) + (1 : Int32) = nI (681 * t + 2 + 3 * k) by rw [show (1 : Int32) = nI 1 from rfl, nI_add]; congr 1; omega, a1, Option.bind_some]
  have F : Fr (frB t k) ν ν2 := Fr_mono a4 (fun q j m => m.elim (fun z => Or.inl (Or.inl z)) (fun z => Or.inr ⟨z.1, Or.inl z.2⟩))
  by_cases q : nmB β n p lo hi = 0
  · obtain ⟨b1, b2, b3⟩ := a2 q
    rw [if_pos q]
    exact ⟨ν2, by rw [q], fun _ => ⟨b1, by rw [List.append_nil]; exact b2, fun _ _ => b3, fun z => absurd z (by omega), fun z => absurd z (by omega)⟩, fun z => absurd rfl z, F⟩
  · rw [if_neg q]
    exact ⟨ν2, rfl, fun z => absurd z q, fun _ => a3 q, F⟩
theorem mb_hands (x : Int32) (ν : Nm) : Md_body (nI 3) x ν = (Md_figure (x + 1) (nI 1) (nI 8) ν).bind fun v => some (v.1, v.2) := by
  unfold Md_body
  rw [if_neg (by decide), if_pos (by decide)]; rfl
theorem mb_minute (x : Int32) (ν : Nm) : Md_body (nI 9) x ν = (Md_figure (x + 1) (nI 1) (nI 60) ν).bind fun v => some (v.1, v.2) := by
  unfold Md_body
  rw [if_neg (by decide), if_neg (by decide), if_neg (by decide), if_neg (by decide), if_neg (by decide), if_neg (by decide), if_neg (by decide), if_pos (by decide)]; rfl
theorem mb_four {s : Nat} (h1 : 4 ≤ s) (h2 : s ≤ 7) (x : Int32) (ν : Nm) : Md_body (nI s) x ν = (Md_figure (x + 1) (nI 0) (nI 3) ν).bind fun v => some (v.1, v.2) := by
  unfold Md_body
  rcases (show s = 4 ∨ s = 5 ∨ s = 6 ∨ s = 7 by omega) with rfl | rfl | rfl | rfl
  · rw [if_neg (by decide), if_neg (by decide), if_pos (by decide)]; rfl
  · rw [if_neg (by decide), if_neg (by decide), if_neg (by decide), if_pos (by decide)]; rfl
  · rw [if_neg (by decide), if_neg (by decide), if_neg (by decide), if_neg (by decide), if_pos (by decide)]; rfl
  · rw [if_neg (by decide), if_neg (by decide), if_neg (by decide), if_neg (by decide), if_neg (by decide), if_pos (by decide)]; rfl
theorem bm_burn {β : Nat → Nat} {n p : Nat} {c : List (Nat × Nat)} : BM β n 8 p c (0, p, 0, 0, []) := by
  intro t k ν hk hM hC h14 hl
  refine ⟨ν, ?_, fun _ => ⟨hM, by rw [List.append_nil]; exact hC, fun _ z => absurd rfl z, fun z => absurd z (by omega), fun z => absurd z (by omega)⟩, fun z => absurd rfl z, Fr_rfl _ _⟩
  unfold Md_body
  rw [if_neg (by decide), if_neg (by decide), if_neg (by decide), if_neg (by decide), if_neg (by decide), if_neg (by decide), if_pos (by decide)]; rfl
theorem bm_cord {β : Nat → Nat} {n p : Nat} {c : List (Nat × Nat)} (hp : p ≤ n) (hn : n ≤ 300) : BM β n 2 p c (cdO β n p) := by
  intro t k ν hk hM hC h14 hl
  have ht := hC.1
  have p1 := (tok_pos (β := β) hp).2.2.1
  have p2 := (tok_pos (β := β) p1).2.2.1
  have e0 : Md_body (nI 2) (nI (681 * t + 1 + 3 * k)) ν = (Md_cordClause (nI (681 * t + 1 + 3 * k)) ν).bind fun v => some (v.1, v.2) := by
    unfold Md_body
    rw [if_pos (by decide)]
  have x1 : nI (681 * t + 1 + 3 * k) + (1 : Int32) = nI (681 * t + 2 + 3 * k) := by rw [show (1 : Int32) = nI 1 from rfl, nI_add]; congr 1; omega
  have x2 : nI (681 * t + 1 + 3 * k) + (2 : Int32) = nI (681 * t + 3 + 3 * k) := by rw [show (2 : Int32) = nI 2 from rfl, nI_add]; congr 1; omega
  have nmb := nmB_le β n p 1 60
  obtain ⟨ν2, a1, a2, a3, a4⟩ := m_figure (lo := 1) (hi := 60) (x := 681 * t + 2 + 3 * k) hp hn ht hM hC (by omega) (by omega) (by omega) (by omega)
  have F2 : Fr (frB t k) ν ν2 := Fr_mono a4 (fun q j m => m.elim (fun z => Or.inl (Or.inl z)) (fun z => Or.inr ⟨z.1, Or.inl z.2⟩))
  rw [e0]
  unfold Md_cordClause cdO
  rw [x1, x2, show (1 : Int32) = nI 1 from rfl, show (60 : Int32) = nI 60 from rfl, a1, Option.bind_some]
  simp only [show (nI (nmB β n p 1 60) = (0 : Int32)) = (nmB β n p 1 60 = 0) from nI_eq' (b := 0) (by omega) (by omega)]
  by_cases q1 : nmB β n p 1 60 ≠ 0
  · rw [if_neg q1, if_pos q1]
    exact ⟨ν2, rfl, fun z => absurd z q1, fun _ => a3 q1, F2⟩
  · have q1' := Classical.not_not.mp q1
    obtain ⟨b1, b2, b3⟩ := a2 q1'
    rw [if_pos q1', if_neg q1, w_price, Option.bind_some, m_isWord b1.2.2.2.2 (by omega) (by omega), Option.bind_some]
    simp only [b2d0]
    by_cases q2 : tT β n (tE β n p) ≠ 5
    · rw [if_neg (fun z => z q2), if_pos q2]
      exact ⟨ν2, rfl, fun z => absurd z (by omega), fun _ => b1.2.1, F2⟩
    · have q2' := Classical.not_not.mp q2
      obtain ⟨ν3, d1, d2, d3, d4⟩ := m_adv2 b1 p1 (by omega) b2 (by omega)
      obtain ⟨ν4, g1, g2, g3, g4⟩ := m_figure (lo := 0) (hi := 99) (x := 681 * t + 3 + 3 * k) p2 hn ht d2 d3 (by omega) (by omega) (by omega) (by omega)
      have F4 : Fr (frB t k) ν ν4 := Fr_tr F2 (Fr_tr (Fr_mono d4 (fun q j m => Or.inl (Or.inl m))) (Fr_mono g4 (fun q j m => m.elim (fun z => Or.inl (Or.inl z)) (fun z => Or.inr ⟨z.1, Or.inr z.2⟩))))
      rw [if_pos (fun z => z q2'), if_neg q2, d1, Option.bind_some, show (0 : Int32) = nI 0 from rfl, show (99 : Int32) = nI 99 from rfl, g1, Option.bind_some]
      by_cases q3 : nmB β n (tE β n (tE β n p)) 0 99 ≠ 0
      · rw [if_pos q3]
        exact ⟨ν4, rfl, fun z => absurd z q3, fun _ => g3 q3, F4⟩
      · have q3' := Classical.not_not.mp q3
        obtain ⟨i1, i2, i3⟩ := g2 q3'
        rw [if_neg q3, q3']
        refine ⟨ν4, rfl, fun _ => ⟨i1, by rw [List.append_nil]; exact i2, fun _ _ => ?_, fun _ => i3, fun z => absurd z (by omega)⟩, fun z => absurd rfl z, F4⟩
        rw [g4.1 _ _ (by unfold frM; omega), d4.1 _ _ (by unfold frM; omega)]; exact b3
/-- the machine over a whole sum -/
theorem run_sum {β : Nat → Nat} {n L p : Nat} (hn : n ≤ 300) (hp : p ≤ n) {o : Oc} (h : GdS β n L p 0 o) (c : List (Nat × Nat)) : (o.1 = 0 → mrun β n L FU (false, p, [], c) = some (0, (true, o.2.1, [], c ++ o.2.2))) ∧ (o.1 ≠ 0 → ∃ s2 : Ms, mrun β n L FU (false, p, [], c) = some (o.1, s2) ∧ tS β n s2.2.1 = o.2.1) := by
  obtain ⟨-, M, P⟩ := h
  obtain ⟨m1, m2⟩ := M [] c rfl (by simp) (fun o Y e => by cases e) (fun z => by cases z) (fun _ _ => rfl)
  refine ⟨fun z => ?_, fun z => ?_⟩
  · obtain ⟨Y, e1, y1, y2, y3, j, j1, j2⟩ := m1 z
    obtain ⟨p1, p2, p3, p4, p5, p6⟩ := P.1 z
    have j1 : p + j ≤ o.2.1 := j1
    have hY : ∀ y ∈ Y, 1 ≤ rk y := fun y hy => by have := y1 y hy; omega
    have hopn : opn (Y ++ []) = 0 := by rw [opn_app Y [] hY]; rfl
    rw [show FU = (FU - j - 1 + 1) + j by unfold FU; omega, j2, mrun]
    unfold mbeh
    rw [if_neg (btw_no p6 (by rw [hopn]; omega)), if_pos (by unfold prt; rw [hopn, if_neg (by omega), if_neg (by omega), if_neg (by omega), if_neg (by omega)]), Option.bind_some, if_pos rfl, if_pos hopn, stl_app Y [] (c ++ e1) hY (fun o Y e => by cases e), y3, List.append_assoc]
  · obtain ⟨j, s2, j1, j2, j3⟩ := m2 z
    have j1 : p + j ≤ n := j1
    exact ⟨s2, by rw [show FU = (FU - j - 1) + j + 1 by unfold FU; omega, j3], j2⟩
theorem bm_law {β : Nat → Nat} {n s p : Nat} {c : List (Nat × Nat)} (hp : p ≤ n) (hn : n ≤ 300) (hs : s < 2) {o : Oc} (h : GdS β n s p 0 o) : BM β n s p c (o.1, o.2.1, 0, 0, o.2.2) := by
  intro t k ν hk hM hC h14 hl
  have ht := hC.1
  obtain ⟨r1, r2⟩ := run_sum hn hp h c
  have x1 : nI (681 * t + 1 + 3 * k) + (1 : Int32) = nI (681 * t + 2 + 3 * k) := by rw [show (1 : Int32) = nI 1 from rfl, nI_add]; congr 1; omega
  have x2 : nI (681 * t + 1 + 3 * k) + (2 : Int32) = nI (681 * t + 3 + 3 * k) := by rw [show (2 : Int32) = nI 2 from rfl, nI_add]; congr 1; omega
  have e0 : Md_body (nI s) (nI (681 * t + 1 + 3 * k)) ν = (Md_lawClause (nI (681 * t + 1 + 3 * k)) ν).bind fun v => some (v.1, v.2) := by
    unfold Md_body
    rcases (show s = 0 ∨ s = 1 by omega) with rfl | rfl <;> rw [if_neg (by decide), if_neg (by decide), if_neg (by decide), if_neg (by decide), if_neg (by decide), if_neg (by decide), if_neg (by decide), if_neg (by decide)]
  rw [e0]
  unfold Md_lawClause Md_summed
  rw [x1, x2, hC.2.2.1, inb_nI (by omega), nI_clamp (by omega), inb_nI (by omega), nI_clamp (by omega), if_pos (by simp; omega)]
  obtain ⟨M1, C1⟩ := M_cell hM hC (by omega) (x := 681 * t + 2 + 3 * k) (by omega) (nI c.length)
  have k1 : ∀ q j, (q ≠ 313 ∨ j < 16 ∨ 18 < j) → gi (si (si (si (si ν 316 (681 * t + 2 + 3 * k) (nI c.length)) 313 16 0) 313 17 0) 313 18 0) q j = gi (si ν 316 (681 * t + 2 + 3 * k) (nI c.length)) q j := fun q j hq => by rw [gi_si, if_neg (by omega), gi_si, if_neg (by omega), gi_si, if_neg (by omega)]
  have R0 : Rep β n t s (false, p, [], c) (si (si (si (si ν 316 (681 * t + 2 + 3 * k) (nI c.length)) 313 16 0) 313 17 0) 313 18 0) := by
    refine ⟨MTk_keep M1 (fun j hj => k1 _ _ (by omega)) (fun i => k1 _ _ (by omega)) rfl, ⟨?_, by simp, ?_, True.intro⟩, CDr_keep C1 (show c.length ≤ 304 by omega) (k1 _ _ (by omega)) (k1 _ _ (by omega)) (fun j _ _ => k1 _ _ (by omega)), ?_, ?_, ?_, hp, hn⟩
    · rw [gi_si_j _ _ _ (by omega), gi_si_j _ _ _ (by omega), gi_si_s]; rfl
    · rw [gi_si_j _ _ _ (by omega), gi_si_s]; rfl
    · rw [k1 _ _ (by omega), gi_si_q _ _ _ _ (by omega)]; exact h14
    · rw [gi_si_s]; rfl
    · show c.length + 0 ≤ p; omega
  have F0 : Fr (frB t k) ν (si (si (si (si ν 316 (681 * t + 2 + 3 * k) (nI c.length)) 313 16 0) 313 17 0) 313 18 0) := Fr_si (Fr_si (Fr_si (Fr_si (Fr_rfl _ _) _ (Or.inr ⟨rfl, Or.inl rfl⟩)) _ (Or.inl (Or.inr (Or.inl (Or.inr ⟨rfl, Or.inl rfl⟩))))) _ (Or.inl (Or.inr (Or.inl (Or.inr ⟨rfl, Or.inr rfl⟩))))) _ (Or.inl (Or.inr (Or.inr (Or.inr ⟨rfl, rfl⟩))))
  have b2 : gi (si (si (si (si ν 316 (681 * t + 2 + 3 * k) (nI c.length)) 313 16 0) 313 17 0) 313 18 0) 316 (681 * t + 2 + 3 * k) = nI c.length := by rw [k1 _ _ (by omega), gi_si_s]
  generalize hν1 : si (si (si (si ν 316 (681 * t + 2 + 3 * k) (nI c.length)) 313 16 0) 313 17 0) 313 18 0 = ν1 at *
  by_cases q : o.1 = 0
  · obtain ⟨ν2, a1, a2, a3⟩ := m_run (t := t) (show s < 10 by omega) FU _ _ ν1 (r1 q) (by show 0 < 2 ^ 31; omega) R0
    obtain ⟨c1, c2, c3, c4, c5, c6, c7, c8⟩ := Rep_ex a2
    have hlen : (c ++ o.2.2).length = c.length + o.2.2.length := List.length_append
    rw [a1, Option.bind_some, if_pos (by simp; omega), Option.bind_some]
    have c6' : (c ++ o.2.2).length ≤ 304 := by have : (c ++ o.2.2).length + 0 ≤ o.2.1 := c6; omega
    obtain ⟨M2, C2⟩ := M_cell c1 c3 c6' (x := 681 * t + 3 + 3 * k) (by omega) (gi ν2 313 13)
    refine ⟨_, by rw [q], fun _ => ⟨M2, C2, fun z => absurd z (by omega), fun z => absurd z (by omega), fun _ => ⟨?_, ?_⟩⟩, fun z => absurd q z, Fr_si (Fr_tr F0 (Fr_mono a3 (fun q j m => Or.inl m))) _ (Or.inr ⟨rfl, Or.inr rfl⟩)⟩
    · rw [gi_si_j _ _ _ (by omega), a3.1 _ _ (by unfold frR frM frS frE; omega)]; exact b2
    · rw [gi_si_s, c3.2.2.1, hlen]
  · obtain ⟨s2, u1, u2⟩ := r2 q
    obtain ⟨P1, P2⟩ := h.2.2.2 q
    obtain ⟨ν2, a1, a2, a3⟩ := m_run (t := t) (show s < 10 by omega) FU _ _ ν1 u1 (show o.1 < 2 ^ 31 by omega) R0
    rw [a1, Option.bind_some, if_pos (by simp; omega), Option.bind_some]
    refine ⟨_, rfl, fun z => absurd z q, fun _ => ?_, Fr_si (Fr_tr F0 (Fr_mono a3 (fun q j m => Or.inl m))) _ (Or.inr ⟨rfl, Or.inr rfl⟩)⟩
    rw [gi_si_q _ _ _ _ (by omega), a2.1.2.1, u2]

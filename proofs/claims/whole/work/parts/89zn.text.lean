/-! A clause, and all clauses of a text. -/
theorem c_rules {T s : Nat} {K : List (Nat × Nat × Nat)} {b e : Nat → Nat} {ν : Nm} (h : XC T K b e ν) (hs : s < 2) (hb : b s ≤ 294) (he : e s ≤ 294) : Tx_rules ν T (nI s) = some (decide (b s < e s)) := by
  unfold Tx_rules
  obtain ⟨k1, k2⟩ := h.2.2 s hs
  rw [inb_nI (by omega), nI_clamp (by omega), if_pos (decide_eq_true hs), if_pos (decide_eq_true hs), k1, k2]
  by_cases z : b s < e s
  · rw [if_neg (by rw [nI_le' (by omega) (by omega)]; omega), decide_eq_true z]
  · rw [if_pos (by rw [nI_le' (by omega) (by omega)]; omega), decide_eq_false z]
theorem WTx_l {K : List (Nat × Nat × Nat)} {c : List (Nat × Nat)} {b e : Nat → Nat} (h : WTx K c b e) {l : Nat} (hl : l < 2) : LawW K c b e l := by
  rcases (show l = 0 ∨ l = 1 by omega) with rfl | rfl
  · exact h.2.2.1
  · exact h.2.2.2
theorem m_has {b e : Nat → Nat} {ν : Nm} {s : Nat} (h : gi ν 313 19 = nI (seenN b e 0 + 2 * seenN b e 1)) (hs : s < 2) : Md_has (gi ν 313 19) (nI s) = some (decide (b s < e s)) := by
  have a0 := seenN_2 b e 0
  have a1 := seenN_2 b e 1
  obtain ⟨h1, h2, -, -⟩ := has_all _ a0 _ a1
  rw [h]
  rcases (show s = 0 ∨ s = 1 by omega) with rfl | rfl
  · rw [h1]; congr 1; exact decide_eq_decide.mpr (seenN_1 b e 0)
  · rw [h2]; congr 1; exact decide_eq_decide.mpr (seenN_1 b e 1)
theorem seen_new {b e : Nat → Nat} {s v w : Nat} (hs : s < 2) (hv : v < w) : nI (seenN b e 0 + 2 * seenN b e 1) ||| ((1 : Int32) <<< (nI s &&& 31)) = nI (seenN (bbN b s v) (bbN e s w) 0 + 2 * seenN (bbN b s v) (bbN e s w) 1) := by
  have a0 := seenN_2 b e 0
  have a1 := seenN_2 b e 1
  obtain ⟨-, -, h1, h2⟩ := has_all _ a0 _ a1
  have g : ∀ l, seenN (bbN b s v) (bbN e s w) l = if l = s then 1 else seenN b e l := fun l => by
    unfold seenN bbN
    rw [if_pos hs, if_pos hs]
    by_cases z : l = s
    · subst z; rw [upn_s, upn_s, if_pos hv, if_pos rfl]
    · rw [upn_n _ _ z, upn_n _ _ z, if_neg z]
  rw [g, g]
  rcases (show s = 0 ∨ s = 1 by omega) with rfl | rfl
  · rw [if_pos rfl, if_neg (by omega)]; exact h1
  · rw [if_neg (by omega), if_pos rfl]; exact h2
theorem m_cl {β : Nat → Nat} {n p : Nat} {ν : Nm} (hM : MTk β n p ν) : (srT (tT β n p) = 10 → Md_clause ν = some (nI 1, ν)) ∧ (srT (tT β n p) < 10 → 2 ≤ srT (tT β n p) → Md_clause ν = Md_clause_29 (nI (srT (tT β n p))) ν) ∧ (srT (tT β n p) < 2 → Md_clause ν = (Md_has (gi ν 313 19) (nI (srT (tT β n p)))).bind fun v4 => if (b2i v4) = 0 then Md_clause_29 (nI (srT (tT β n p))) ν else some (nI 4, ν)) := by
  have hS := m_sortOf hM.2.2.2.2
  refine ⟨fun h => ?_, fun h h2 => ?_, fun h2 => ?_⟩
  · unfold Md_clause
    rw [hS, Option.bind_some, h, if_neg (by decide)]; rfl
  · unfold Md_clause
    rw [hS, Option.bind_some, show orN 10 (srT (tT β n p)) = nI (srT (tT β n p)) by unfold orN; rw [if_pos h], if_pos (nI_pos' (by omega)), if_pos (by rw [show (1 : Int32) = nI 1 from rfl, nI_lt' (by omega) (by omega)]; omega)]
  · unfold Md_clause
    rw [hS, Option.bind_some, show orN 10 (srT (tT β n p)) = nI (srT (tT β n p)) by unfold orN; rw [if_pos (by omega)], if_pos (nI_pos' (by omega)), if_neg (by rw [show (1 : Int32) = nI 1 from rfl, nI_lt' (by omega) (by omega)]; omega)]
    rfl
theorem m_c29 {t s : Nat} {K : List (Nat × Nat × Nat)} {c : List (Nat × Nat)} {b e : Nat → Nat} {ν : Nm} (hC : CDr t c ν) (hX : XM t K b e ν) (hK : K.length ≤ 24) (hs : s < 10) : (K.length = 24 → Md_clause_29 (nI s) ν = some (nI 6, ν)) ∧ (K.length < 24 → Md_clause_29 (nI s) ν = Md_clause_65 (nI s) (nI K.length) (if s < 2 then si ν 313 19 ((gi ν 313 19) ||| ((1 : Int32) <<< (nI s &&& 31))) else ν)) := by
  have ht := hC.1
  unfold Md_clause_29
  rw [hC.2.1, inb_nI (by omega), nI_clamp (by omega), if_pos (by simp; omega), hX.1]
  refine ⟨fun h => ?_, fun h => ?_⟩
  · rw [h, if_neg (fun z => z rfl)]; rfl
  · rw [if_pos (by rw [show (24 : Int32) = nI 24 from rfl, nI_eq' (by omega) (by omega)]; omega)]
    by_cases q : s < 2
    · rw [if_neg (by rw [show (1 : Int32) = nI 1 from rfl, nI_lt' (by omega) (by omega)]; omega), if_pos q]
    · rw [if_pos (by rw [show (1 : Int32) = nI 1 from rfl, nI_lt' (by omega) (by omega)]; omega), if_neg q]
theorem kd_tok : ∀ s, s < 10 → kdK s ≠ 0 ∧ kdK s ≠ 131 := by decide
theorem kd_law : ∀ s, s < 2 → kdK s = 2 ∨ kdK s = 3 := by decide
theorem clause_ok {β : Nat → Nat} {n p : Nat} {K : List (Nat × Nat × Nat)} {c : List (Nat × Nat)} {b e : Nat → Nat} (hb : ∀ i, i < 300 → β i < 256) (hn : n ≤ 300) (hp : p ≤ n) (hW : WTx K c b e) (hc : c.length ≤ p) : ∃ (f q s x y : Nat) (ec : List (Nat × Nat)),
    (∀ T L ν, okT T → CC β n L T p K c b e ν → ∃ ν2, Rd_readClause (nI K.length) ν = some ν2 ∧ (f = 0 → ∃ L2, CC β n L2 T q (K ++ [(s, x, y)]) (c ++ ec) (bbN b s c.length) (bbN e s (c.length + ec.length)) ν2) ∧ (f ≠ 0 → CFK T f q ν2) ∧ Fr (frK T) ν ν2)
    ∧ (∀ t ν, MC β n t p K c b e ν → ∃ ν2, Md_clause ν = some (nI f, ν2) ∧ (f = 0 → MC β n t q (K ++ [(s, x, y)]) (c ++ ec) (bbN b s c.length) (bbN e s (c.length + ec.length)) ν2) ∧ (f ≠ 0 → gi ν2 313 8 = nI q) ∧ Fr (frX t) ν ν2)
    ∧ (f = 0 → p < q ∧ q ≤ n ∧ WTx (K ++ [(s, x, y)]) (c ++ ec) (bbN b s c.length) (bbN e s (c.length + ec.length)) ∧ (c ++ ec).length ≤ q) ∧ (f ≠ 0 → f ≤ 6 ∧ q ≤ n) := by
  have hle : ∀ q, tT β n q ≤ 131 := fun q => tT_le (ν := default) hb hn
  have hlp := hle p
  obtain ⟨t1, t2, t3, t4⟩ := tok_pos (β := β) hp
  have hsl := sr_le (tT β n p)
  -- a fault at the first word
  have fl : ∀ f, f ≠ 0 → f ≤ 6 → (∀ T L ν, okT T → CC β n L T p K c b e ν → Rd_readClause (nI K.length) ν = Rd_fail (nI f) ν) → (∀ t ν, MC β n t p K c b e ν → Md_clause ν = some (nI f, ν)) → ∃ (f q s x y : Nat) (ec : List (Nat × Nat)),
    (∀ T L ν, okT T → CC β n L T p K c b e ν → ∃ ν2, Rd_readClause (nI K.length) ν = some ν2 ∧ (f = 0 → ∃ L2, CC β n L2 T q (K ++ [(s, x, y)]) (c ++ ec) (bbN b s c.length) (bbN e s (c.length + ec.length)) ν2) ∧ (f ≠ 0 → CFK T f q ν2) ∧ Fr (frK T) ν ν2)
    ∧ (∀ t ν, MC β n t p K c b e ν → ∃ ν2, Md_clause ν = some (nI f, ν2) ∧ (f = 0 → MC β n t q (K ++ [(s, x, y)]) (c ++ ec) (bbN b s c.length) (bbN e s (c.length + ec.length)) ν2) ∧ (f ≠ 0 → gi ν2 313 8 = nI q) ∧ Fr (frX t) ν ν2)
    ∧ (f = 0 → p < q ∧ q ≤ n ∧ WTx (K ++ [(s, x, y)]) (c ++ ec) (bbN b s c.length) (bbN e s (c.length + ec.length)) ∧ (c ++ ec).length ≤ q) ∧ (f ≠ 0 → f ≤ 6 ∧ q ≤ n) := by
    intro f f0 f6 hcl hmo
    refine ⟨f, tS β n p, 0, 0, 0, [], fun T L ν hT hC => ?_, fun t ν hM => ⟨ν, hmo t ν hM, fun z => absurd z f0, fun _ => hM.1.2.1, Fr_rfl _ _⟩, fun z => absurd z f0, fun _ => ⟨f6, by omega⟩⟩
    obtain ⟨ν2, e1, e2, e3⟩ := cs_fail hT hC.1 (by omega) f
    exact ⟨ν2, by rw [hcl T L ν hT hC]; exact e1, fun z => absurd z f0, fun _ => XC_K hT hW.1 hC.2 e3 e2, Fr_mono e3 (fun q j m => frCK m)⟩
  by_cases h10 : srT (tT β n p) = 10
  · exact fl 1 (by omega) (by omega) (fun T L ν hT hC => rc_bad _ hC.1.1.2.2.1 hlp h10) (fun t ν hM => (m_cl hM.1).1 h10)
  have hs10 : srT (tT β n p) < 10 := by omega
  have hTk := sr_T (tT β n p) (by omega) hs10
  generalize hsr : srT (tT β n p) = s at *
  obtain ⟨kt0, kt1⟩ := kd_tok s hs10
  have t4 := t4 (by omega) (by omega)
  -- what is known of a law's word
  have lw : s < 2 → b s ≤ 294 ∧ e s ≤ 294 := fun h2 => by
    rcases LawW_seen (WTx_l hW h2) with z | z <;> omega
  by_cases hB : s < 2 ∧ b s < e s
  · refine fl 4 (by omega) (by omega) (fun T L ν hT hC => ?_) (fun t ν hM => ?_)
    · have hx : gx ν = T := hC.1.2.2.2.2.1
      rw [rc_law _ hT hx (by rw [hC.1.1.2.2.1, hTk]) hB.1, c_rules hC.2 hB.1 (lw hB.1).1 (lw hB.1).2, Option.bind_some, decide_eq_true hB.2, if_neg (by rw [b2iT]; exact id)]
      rfl
    · have := (m_cl hM.1).2.2
      rw [hsr] at this
      rw [this hB.1, m_has hM.2.2.2 hB.1, Option.bind_some, decide_eq_true hB.2, if_neg (by rw [b2iT]; exact id)]
  -- both go on
  have gc : ∀ T L ν, okT T → CC β n L T p K c b e ν → Rd_readClause (nI K.length) ν = Rd_readClause_70 (nI K.length) (nI (kdK s)) (if s < 2 then 1 else 0) ν := fun T L ν hT hC => by
    have hx : gx ν = T := hC.1.2.2.2.2.1
    by_cases h2 : s < 2
    · have hnb : ¬ b s < e s := fun z => hB ⟨h2, z⟩
      rw [rc_law _ hT hx (by rw [hC.1.1.2.2.1, hTk]) h2, c_rules hC.2 h2 (lw h2).1 (lw h2).2, Option.bind_some, decide_eq_false hnb, if_pos (by rw [b2iF]; exact True.intro), if_pos h2]
    · rw [rc_act _ (by rw [hC.1.1.2.2.1, hTk]) (by omega) hs10, if_neg h2]
  have gm : ∀ t ν, MC β n t p K c b e ν → Md_clause ν = Md_clause_29 (nI s) ν := fun t ν hM => by
    by_cases h2 : s < 2
    · have hnb : ¬ b s < e s := fun z => hB ⟨h2, z⟩
      have := (m_cl hM.1).2.2
      rw [hsr] at this
      rw [this h2, m_has hM.2.2.2 h2, Option.bind_some, decide_eq_false hnb, if_pos (by rw [b2iF]; exact True.intro)]
    · have := (m_cl hM.1).2.1
      rw [hsr] at this
      exact this hs10 (by omega)
  by_cases h24 : K.length = 24
  · refine fl 6 (by omega) (by omega) (fun T L ν hT hC => ?_) (fun t ν hM => ?_)
    · rw [gc T L ν hT hC, h24, rc_24]; rfl
    · rw [gm t ν hM]
      exact (m_c29 hM.2.1 hM.2.2.1 hW.1 hs10).1 h24
  have hK : K.length < 24 := by have := hW.1; omega
  obtain ⟨r, B1, B2, B3⟩ := body_ok hb hn t3 hs10 c
  have hno : s < 2 → ∀ k, k < K.length → (K.getD k z3).1 ≠ s := fun h2 => by
    rcases LawW_seen (WTx_l hW h2) with z | z
    · exact absurd z.1 (fun y => hB ⟨h2, y⟩)
    · exact z.2.2
  -- the class, up to the sign behind the clause
  have cls : ∀ T L ν, okT T → CC β n L T p K c b e ν → ∃ v4, Rd_readClause (nI K.length) ν = Rd_expect 59 v4 ∧ (r.1 = 0 → ∃ L2, CC β n L2 T r.2.1 (K ++ [(s, r.2.2.1, r.2.2.2.1)]) (c ++ r.2.2.2.2) (bbN b s c.length) (bbN e s (c.length + r.2.2.2.2.length)) v4) ∧ (r.1 ≠ 0 → CFK T r.1 r.2.1 v4) ∧ Fr (frK T) ν v4 := fun T L ν hT hC => by
    obtain ⟨v2, a1, a2, a3⟩ := cs_next hT hp hC.1
    obtain ⟨v4, d1, d2, d3, d4⟩ := B1 T L K b e v2 hT ⟨a2, XC_keep hT hC.2 a3⟩ hK (by omega)
    refine ⟨v4, ?_, d2, d3, Fr_tr (Fr_mono a3 (fun q j m => frCK m)) d4⟩
    rw [gc T L ν hT hC, rc_70 hK, a1, Option.bind_some, d1, Option.bind_some]
  have XK : ∀ {T L q : Nat} {K2 : List (Nat × Nat × Nat)} {c2 : List (Nat × Nat)} {b2 e2 : Nat → Nat} {v v2 : Nm} {f pl : Nat}, okT T → CC β n L T q K2 c2 b2 e2 v → K2.length ≤ 24 → Fr (frC T) v v2 → CFl T f pl v2 → CFK T f pl v2 := fun hT hC hk fr h => XC_K hT hk hC.2 fr h
  have FK : ∀ {T f pl : Nat} {v v2 : Nm}, okT T → CFK T f pl v → Fr (frC T) v v2 → CFl T f pl v2 → CFK T f pl v2 := fun {T f pl v v2} hT h fr h2 => by
    obtain ⟨k, k1, k2⟩ := h.2
    refine ⟨h2, k, k1, ?_⟩
    unfold okT at hT
    rw [fr.1 _ _ (by unfold frC; omega)]; exact k2
  -- the model
  have mdl : ∀ t ν, MC β n t p K c b e ν → ∃ ν2, (r.1 ≠ 0 → Md_clause ν = some (nI r.1, ν2) ∧ gi ν2 313 8 = nI r.2.1) ∧ (r.1 = 0 → tT β n r.2.1 ≠ 59 → Md_clause ν = some (nI 1, ν2) ∧ gi ν2 313 8 = nI (tS β n r.2.1)) ∧ (r.1 = 0 → tT β n r.2.1 = 59 → Md_clause ν = some (nI 0, ν2) ∧ MC β n t (tE β n r.2.1) (K ++ [(s, r.2.2.1, r.2.2.2.1)]) (c ++ r.2.2.2.2) (bbN b s c.length) (bbN e s (c.length + r.2.2.2.2.length)) ν2) ∧ Fr (frX t) ν ν2 := fun t ν hM => by
    obtain ⟨m1, m2, m3, m4⟩ := hM
    have e29 := (m_c29 m2 m3 hW.1 hs10).2 hK
    have F0 : Fr (frX t) ν (if s < 2 then si ν 313 19 ((gi ν 313 19) ||| ((1 : Int32) <<< (nI s &&& 31))) else ν) := by
      split
      · exact Fr_si (Fr_rfl _ _) _ (Or.inr (Or.inr ⟨rfl, Or.inr rfl⟩))
      · exact Fr_rfl _ _
    have k0 : ∀ q j, q ≠ 313 ∨ j ≠ 19 → gi (if s < 2 then si ν 313 19 ((gi ν 313 19) ||| ((1 : Int32) <<< (nI s &&& 31))) else ν) q j = gi ν q j := fun q j hq => by
      split
      · rw [gi_si, if_neg (by omega)]
      · rfl
    have kl : gl (if s < 2 then si ν 313 19 ((gi ν 313 19) ||| ((1 : Int32) <<< (nI s &&& 31))) else ν) 313 11 = gl ν 313 11 := by
      split <;> rfl
    have k19 : gi (if s < 2 then si ν 313 19 ((gi ν 313 19) ||| ((1 : Int32) <<< (nI s &&& 31))) else ν) 313 19 = if s < 2 then nI (seenN b e 0 + 2 * seenN b e 1) ||| ((1 : Int32) <<< (nI s &&& 31)) else nI (seenN b e 0 + 2 * seenN b e 1) := by
      by_cases h2 : s < 2
      · rw [if_pos h2, if_pos h2, gi_si_s, m4]
      · rw [if_neg h2, if_neg h2, m4]
    generalize (if s < 2 then si ν 313 19 ((gi ν 313 19) ||| ((1 : Int32) <<< (nI s &&& 31))) else ν) = ν0 at *
    have X0 : XM t K b e ν0 := ⟨by rw [k0 _ _ (by omega)]; exact m3.1, fun k hk => by
      obtain ⟨a1, a2, a3, a4⟩ := m3.2 k hk
      exact ⟨by rw [k0 _ _ (by omega)]; exact a1, fun y1 y2 => by rw [k0 _ _ (by omega)]; exact a2 y1 y2, fun y1 => by rw [k0 _ _ (by omega)]; exact a3 y1, fun y1 => by rw [k0 _ _ (by omega), k0 _ _ (by omega)]; exact a4 y1⟩⟩
    obtain ⟨ν2, g1, g2, g3, g4, g5⟩ := m_c65 hn hp hs10 (by omega) hK hc (MTk_keep m1 (fun j hj => k0 _ _ (by omega)) (fun i => k0 _ _ (by omega)) kl) (CDr_keep m2 (by omega) (k0 _ _ (by omega)) (k0 _ _ (by omega)) (fun j _ _ => k0 _ _ (by omega))) X0 B2 B3 hno
    rw [gm t ν ⟨m1, m2, m3, m4⟩, e29]
    refine ⟨ν2, g1, g2, fun z1 z2 => ?_, Fr_tr F0 g4⟩
    obtain ⟨w1, w2, w3, w4⟩ := g3 z1 z2
    refine ⟨w1, w2, w3, w4, ?_⟩
    rw [g5, k19]
    by_cases h2 : s < 2
    · rw [if_pos h2]
      have hne : r.2.2.2.2.length ≠ 0 := fun z => by
        have e0 : r.2.2.2.2 = [] := List.length_eq_zero_iff.mp z
        have := ((B3.1 z1).2.2.2.2.1 h2).1
        rw [e0] at this
        cases this
      exact seen_new h2 (by omega)
    · rw [if_neg h2]
      unfold bbN
      rw [if_neg h2, if_neg h2]
  by_cases s1 : r.1 = 0
  · obtain ⟨p1, p2, p3, p4, p5, p6⟩ := B3.1 s1
    have hpos1 := tok_pos (β := β) p2
    have hlen : (c ++ r.2.2.2.2).length = c.length + r.2.2.2.2.length := List.length_append
    by_cases s2 : tT β n r.2.1 = 59
    · have hlt1 := hpos1.2.2.2 (by omega) (by omega)
      refine ⟨0, tE β n r.2.1, s, r.2.2.1, r.2.2.2.1, r.2.2.2.2, fun T L ν hT hC => ?_, fun t ν hM => ?_, fun _ => ⟨by omega, hpos1.2.2.1, WTx_add hW hK p4 p6 (fun h2 => ?_), by omega⟩, fun z => absurd rfl z⟩
      · obtain ⟨v4, a1, a2, a3, a4⟩ := cls T L ν hT hC
        obtain ⟨L2, a2⟩ := a2 s1
        obtain ⟨v5, d1, d2, d3⟩ := cs_expect hT p2 a2.1 (by omega) (k := 59) (by omega)
        rw [if_pos s2] at d2
        exact ⟨v5, by rw [a1]; exact d1, fun _ => ⟨L2, d2, XC_keep hT a2.2 d3⟩, fun z => absurd rfl z, Fr_tr a4 (Fr_mono d3 (fun q j m => frCK m))⟩
      · obtain ⟨ν2, g1, g2, g3, g4⟩ := mdl t ν hM
        obtain ⟨w1, w2⟩ := g3 s1 s2
        exact ⟨ν2, w1, fun _ => w2, fun z => absurd rfl z, g4⟩
      · have hl5 := law_len (β := β) (n := n) (p := p) (by rw [hTk]; exact kd_law s h2)
        obtain ⟨y1, y2, y3, y4⟩ := p5 h2
        exact ⟨y3, y4, fun z => hB ⟨h2, z⟩, by omega, y1, y2⟩
    · refine ⟨1, tS β n r.2.1, 0, 0, 0, [], fun T L ν hT hC => ?_, fun t ν hM => ?_, fun z => absurd z (by omega), fun _ => ⟨by omega, by omega⟩⟩
      · obtain ⟨v4, a1, a2, a3, a4⟩ := cls T L ν hT hC
        obtain ⟨L2, a2⟩ := a2 s1
        obtain ⟨v5, d1, d2, d3⟩ := cs_expect hT p2 a2.1 (by omega) (k := 59) (by omega)
        rw [if_neg s2] at d2
        exact ⟨v5, by rw [a1]; exact d1, fun z => absurd z (by omega), fun _ => XK hT a2 (by rw [List.length_append, List.length_singleton]; omega) d3 d2, Fr_tr a4 (Fr_mono d3 (fun q j m => frCK m))⟩
      · obtain ⟨ν2, g1, g2, g3, g4⟩ := mdl t ν hM
        obtain ⟨w1, w2⟩ := g2 s1 s2
        exact ⟨ν2, w1, fun z => absurd z (by omega), fun _ => w2, g4⟩
  · obtain ⟨f6, fn⟩ := B3.2 s1
    refine ⟨r.1, r.2.1, 0, 0, 0, [], fun T L ν hT hC => ?_, fun t ν hM => ?_, fun z => absurd z s1, fun _ => ⟨f6, fn⟩⟩
    · obtain ⟨v4, a1, a2, a3, a4⟩ := cls T L ν hT hC
      have a3 := a3 s1
      obtain ⟨v5, d1, d2, d3⟩ := cf_expect hT s1 (by omega) a3.1 (k := 59) (by omega)
      exact ⟨v5, by rw [a1]; exact d1, fun z => absurd z s1, fun _ => FK hT a3 d3 d2, Fr_tr a4 (Fr_mono d3 (fun q j m => frCK m))⟩
    · obtain ⟨ν2, g1, g2, g3, g4⟩ := mdl t ν hM
      obtain ⟨w1, w2⟩ := g1 s1
      exact ⟨ν2, w1, fun z => absurd z s1, fun _ => w2, g4⟩

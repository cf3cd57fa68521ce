/-! All clauses of a text; the call text. -/
theorem text_ok {β : Nat → Nat} {n : Nat} (hb : ∀ i, i < 300 → β i < 256) (hn : n ≤ 300) : ∀ (k p : Nat) (K : List (Nat × Nat × Nat)) (c : List (Nat × Nat)) (b e : Nat → Nat), n ≤ p + k → p ≤ n → WTx K c b e → c.length ≤ p → ∃ (f q : Nat) (K2 : List (Nat × Nat × Nat)) (c2 : List (Nat × Nat)) (b2 e2 : Nat → Nat),
    (∀ T L ν g, okT T → CC β n L T p K c b e ν → n + 1 < g + p → ∃ ν2, Rd_readInto_38 g (nI K.length) ν = some ν2 ∧ (f = 0 → ∃ L2 p2, CC β n L2 T p2 K2 c2 b2 e2 ν2) ∧ (f ≠ 0 → CFK T f q ν2) ∧ Fr (frK T) ν ν2)
    ∧ (∀ t ν g, MC β n t p K c b e ν → n + 1 < g + p → ∃ ν2, Md_readText_43 g ν = some (nI f, ν2) ∧ (f = 0 → ∃ p2, MC β n t p2 K2 c2 b2 e2 ν2) ∧ (f ≠ 0 → gi ν2 313 8 = nI q) ∧ Fr (frX t) ν ν2)
    ∧ (f = 0 → WTx K2 c2 b2 e2) ∧ (f ≠ 0 → f ≤ 6 ∧ q ≤ n) := by
  have hle : ∀ q, tT β n q ≤ 131 := fun q => tT_le (ν := default) hb hn
  intro k
  induction k using Nat.strongRecOn with
  | _ k ih =>
  intro p K c b e hk hp hW hc
  have hlp := hle p
  have hK := hW.1
  by_cases hT : tT β n p = 131
  · refine ⟨0, 0, K, c, b, e, fun T L ν g hok hC hg => ?_, fun t ν g hM hg => ?_, fun _ => hW, fun z => absurd rfl z⟩
    · obtain ⟨g, rfl⟩ : ∃ g2, g = g2 + 1 := ⟨g - 1, by omega⟩
      refine ⟨ν, ?_, fun _ => ⟨L, p, hC⟩, fun z => absurd rfl z, Fr_rfl _ _⟩
      rw [Rd_readInto_38, if_neg (by rw [show (300 : Int32) = nI 300 from rfl, nI_le' (by omega) (by omega)]; omega), if_pos (by rw [hC.1.1.2.2.1, hT]; rfl)]
    · obtain ⟨g, rfl⟩ : ∃ g2, g = g2 + 1 := ⟨g - 1, by omega⟩
      refine ⟨ν, ?_, fun _ => ⟨p, hM⟩, fun z => absurd rfl z, Fr_rfl _ _⟩
      have e0 : (gi ν 313 9 = (0 : Int32)) = (tT β n p = 131) := tr_eq hM.1.2.2.2.2 (show (0, 131) ∈ tkL by decide)
      rw [Md_readText_43, if_pos (by rw [e0]; exact hT)]; rfl
  · obtain ⟨f, q, s, x, y, ec, C1, M1, P1, Q1⟩ := clause_ok hb hn hp hW hc
    have cstep : ∀ T L ν g, CC β n L T p K c b e ν → Rd_readInto_38 (g + 1) (nI K.length) ν = (Rd_readClause (nI K.length) ν).bind fun v3 => Rd_readInto_38 g (nI (K.length + 1)) v3 := fun T L ν g hC => by
      rw [Rd_readInto_38, if_neg (by rw [show (300 : Int32) = nI 300 from rfl, nI_le' (by omega) (by omega)]; omega), if_neg (by rw [hC.1.1.2.2.1, show (131 : Int32) = nI 131 from rfl, nI_eq' (by omega) (by omega)]; exact hT), show nI K.length + (1 : Int32) = nI (K.length + 1) from nI_add _ 1]
    have mstep : ∀ t ν g, MC β n t p K c b e ν → Md_readText_43 (g + 1) ν = (Md_clause ν).bind fun v2 => if v2.1 = 0 then Md_readText_43 g v2.2 else some (v2.1, v2.2) := fun t ν g hM => by
      have e0 : (gi ν 313 9 = (0 : Int32)) = (tT β n p = 131) := tr_eq hM.1.2.2.2.2 (show (0, 131) ∈ tkL by decide)
      rw [Md_readText_43, if_neg (by rw [e0]; exact hT)]
    by_cases s1 : f = 0
    · obtain ⟨p1, p2, p3, p4⟩ := P1 s1
      obtain ⟨f2, q2, K2, c2, b2, e2, C2, M2, P2, Q2⟩ := ih (n - q) (by omega) q (K ++ [(s, x, y)]) (c ++ ec) _ _ (by omega) p2 p3 p4
      have hlen : (K ++ [(s, x, y)]).length = K.length + 1 := by rw [List.length_append]; rfl
      refine ⟨f2, q2, K2, c2, b2, e2, fun T L ν g hok hC hg => ?_, fun t ν g hM hg => ?_, P2, Q2⟩
      · obtain ⟨g, rfl⟩ : ∃ g2, g = g2 + 1 := ⟨g - 1, by omega⟩
        obtain ⟨v3, a1, a2, a3, a4⟩ := C1 T L ν hok hC
        obtain ⟨L2, a2⟩ := a2 s1
        obtain ⟨v4, d1, d2, d3, d4⟩ := C2 T L2 v3 g hok a2 (by omega)
        rw [hlen] at d1
        exact ⟨v4, by rw [cstep T L ν g hC, a1, Option.bind_some]; exact d1, d2, d3, Fr_tr a4 d4⟩
      · obtain ⟨g, rfl⟩ : ∃ g2, g = g2 + 1 := ⟨g - 1, by omega⟩
        obtain ⟨v3, a1, a2, a3, a4⟩ := M1 t ν hM
        obtain ⟨v4, d1, d2, d3, d4⟩ := M2 t v3 g (a2 s1) (by omega)
        refine ⟨v4, ?_, d2, d3, Fr_tr a4 d4⟩
        rw [mstep t ν g hM, a1, Option.bind_some, s1, if_pos (show nI 0 = (0 : Int32) from rfl)]
        exact d1
    · obtain ⟨f6, fn⟩ := Q1 s1
      refine ⟨f, q, K, c, b, e, fun T L ν g hok hC hg => ?_, fun t ν g hM hg => ?_, fun z => absurd z s1, Q1⟩
      · obtain ⟨g, rfl⟩ : ∃ g2, g = (g2 + 1) + 1 := ⟨g - 2, by omega⟩
        obtain ⟨v3, a1, a2, a3, a4⟩ := C1 T L ν hok hC
        have a3 := a3 s1
        refine ⟨v3, ?_, fun z => absurd z s1, fun _ => a3, a4⟩
        rw [cstep T L ν (g + 1) hC, a1, Option.bind_some, Rd_readInto_38, if_neg (by rw [show (300 : Int32) = nI 300 from rfl, nI_le' (by omega) (by omega)]; omega), if_pos (cf_131' a3.1)]
      · obtain ⟨g, rfl⟩ : ∃ g2, g = g2 + 1 := ⟨g - 1, by omega⟩
        obtain ⟨v3, a1, a2, a3, a4⟩ := M1 t ν hM
        refine ⟨v3, ?_, fun z => absurd z s1, a3, a4⟩
        rw [mstep t ν g hM, a1, Option.bind_some, if_neg (by show ¬ nI f = 0; rw [show (0 : Int32) = nI 0 from rfl, nI_eq' (by omega) (by omega)]; exact s1)]
theorem nI_ex (x : Int32) : ∃ L, x = nI L := by
  refine ⟨x.toBitVec.toNat, ?_⟩
  apply Int32.toBitVec_inj.mp
  rw [nI_bv]
  apply BitVec.eq_of_toNat_eq
  rw [BitVec.toNat_ofNat, Nat.mod_eq_of_lt x.toBitVec.isLt]
theorem WTx_0 : WTx [] [] (fun _ => 0) (fun _ => 0) := ⟨by simp, fun k hk => absurd hk (Nat.not_lt_zero _), Or.inr ⟨fun k hk => absurd hk (Nat.not_lt_zero _), rfl, rfl⟩, Or.inr ⟨fun k hk => absurd hk (Nat.not_lt_zero _), rfl, rfl⟩⟩
theorem c_clear {T : Nat} (hT : okT T) (ν : Nm) : ∃ ν2, Tx_clear T ν = some ν2 ∧ gi ν2 T 3 = nI 0 ∧ gi ν2 T 5 = nI 0 ∧ (∀ l, l < 2 → gi ν2 (T + 5) l = nI 0 ∧ gi ν2 (T + 6) l = nI 0) ∧ gx ν2 = gx ν ∧ Fr (frK T) ν ν2 := by
  unfold okT at hT
  have F : Fr (frK T) ν (si (si (si (si (si (si ν T 3 0) T 5 0) (T + 5) 0 0) (T + 6) 0 0) (T + 5) 1 0) (T + 6) 1 0) := Fr_si (Fr_si (Fr_si (Fr_si (Fr_si (Fr_si (Fr_rfl _ _) _ (Or.inr (by omega))) _ (Or.inr (by omega))) _ (Or.inr (by omega))) _ (Or.inr (by omega))) _ (Or.inr (by omega))) _ (Or.inr (by omega))
  refine ⟨si (si (si (si (si (si ν T 3 0) T 5 0) (T + 5) 0 0) (T + 6) 0 0) (T + 5) 1 0) (T + 6) 1 0, ?_, ?_, ?_, fun l hl => ?_, rfl, F⟩
  · unfold Tx_clear
    rw [show FU = 999999997 + 1 + 1 + 1 from rfl, Tx_clear_12, if_neg (by decide), if_pos (by decide), if_pos (by decide), show (0 : Int32) + 1 = 1 by decide, Tx_clear_12, if_neg (by decide), if_pos (by decide), if_pos (by decide), show (1 : Int32) + 1 = 2 by decide, Tx_clear_12, if_pos (by decide)]
    rfl
  · rw [gi_si_q _ _ _ _ (by omega), gi_si_q _ _ _ _ (by omega), gi_si_q _ _ _ _ (by omega), gi_si_q _ _ _ _ (by omega), gi_si_j _ _ _ (by omega), gi_si_s]; rfl
  · rw [gi_si_q _ _ _ _ (by omega), gi_si_q _ _ _ _ (by omega), gi_si_q _ _ _ _ (by omega), gi_si_q _ _ _ _ (by omega), gi_si_s]; rfl
  · rcases (show l = 0 ∨ l = 1 by omega) with rfl | rfl
    · refine ⟨?_, ?_⟩
      · rw [gi_si_q _ _ _ _ (by omega), gi_si_j _ _ _ (by omega), gi_si_q _ _ _ _ (by omega), gi_si_s]; rfl
      · rw [gi_si_j _ _ _ (by omega), gi_si_q _ _ _ _ (by omega), gi_si_s]; rfl
    · refine ⟨?_, ?_⟩
      · rw [gi_si_q _ _ _ _ (by omega), gi_si_s]; rfl
      · rw [gi_si_s]; rfl
/-- the class begins to read -/
theorem c_begins {β : Nat → Nat} {n T : Nat} {ν : Nm} (hT : okT T) (h : TpC β n ν) : ∃ ν2 L, Rd_readInto T ν = Rd_readInto_38 FU (nI 0) ν2 ∧ CC β n L T 0 [] [] (fun _ => 0) (fun _ => 0) ν2 ∧ Fr (frK T) ν ν2 := by
  have hT0 := hT
  obtain ⟨ν1, a1, a2, a3, a4, a5, a6⟩ := c_clear hT (sx ν T)
  unfold okT at hT
  have f1 : Fr (frK T) ν ν1 := a6
  have f2 : Fr (frK T) ν (si (si (si (si ν1 271 2 0) 271 3 (-1)) 271 4 0) 271 8 0) := Fr_si (Fr_si (Fr_si (Fr_si f1 _ (Or.inl ⟨rfl, by omega, by omega⟩)) _ (Or.inl ⟨rfl, by omega, by omega⟩)) _ (Or.inl ⟨rfl, by omega, by omega⟩)) _ (Or.inl ⟨rfl, by omega, by omega⟩)
  have T2 : TpC β n (si (si (si (si ν1 271 2 0) 271 3 (-1)) 271 4 0) 271 8 0) := TpC_keep h (f2.1 _ _ (by unfold frK; omega)) (fun i => f2.1 _ _ (by unfold frK; omega))
  obtain ⟨ν3, b1, b2, b3, b4⟩ := c_tok (β := β) (n := n) (p := 0) (Nat.zero_le _) T2 (by rw [gi_si_j _ _ _ (by omega), gi_si_s]; rfl)
  obtain ⟨L, hL⟩ := nI_ex (gi ν3 271 9)
  have kT : ∀ q j, T ≤ q → q < T + 7 → gi ν3 q j = gi ν1 q j := fun q j h1 h2 => by rw [b3.1 _ _ (by unfold frT; omega), gi_si_q _ _ _ _ (by omega), gi_si_q _ _ _ _ (by omega), gi_si_q _ _ _ _ (by omega), gi_si_q _ _ _ _ (by omega)]
  refine ⟨ν3, L, ?_, ⟨⟨b2, ⟨?_, ?_⟩, ?_, hL, ?_, ?_, fun i hi => absurd hi (Nat.not_lt_zero _)⟩, ?_, fun k hk => absurd hk (Nat.not_lt_zero _), fun l hl => ?_⟩, Fr_tr f2 (Fr_mono b3 (fun q j m => Or.inl ⟨m.1, by have := m.2; omega⟩))⟩
  · unfold Rd_readInto
    rw [show gx (sx ν T) = T from rfl, if_pos (okT_z hT0), a1, Option.bind_some, b1, Option.bind_some]
    rfl
  · rw [b3.1 _ _ (by unfold frT; omega), gi_si_j _ _ _ (by omega), gi_si_j _ _ _ (by omega), gi_si_j _ _ _ (by omega), gi_si_s]; rfl
  · rw [b3.1 _ _ (by unfold frT; omega), gi_si_j _ _ _ (by omega), gi_si_j _ _ _ (by omega), gi_si_s]
  · rw [b3.1 _ _ (by unfold frT; omega), gi_si_s]; rfl
  · rw [b4]
    show gx ν1 = T
    rw [a5]; rfl
  · rw [kT _ _ (by omega) (by omega), a3]; rfl
  · rw [kT _ _ (by omega) (by omega), a2]; rfl
  · rw [kT _ _ (by omega) (by omega), kT _ _ (by omega) (by omega)]; exact a4 l hl
def frY (t q j : Nat) : Prop := frX t q j ∨ (q = 313 ∧ (j = 12 ∨ j = 13 ∨ j = 19))
/-- the model begins to read -/
theorem m_begins {β : Nat → Nat} {n t : Nat} {ν : Nm} (ht : t < 4) (h : TpM β n ν) (h2 : gi ν 314 2 = nI t) : ∃ ν2, Md_readText ν = Md_readText_43 FU ν2 ∧ MC β n t 0 [] [] (fun _ => 0) (fun _ => 0) ν2 ∧ Fr (frY t) ν ν2 := by
  have e0 : (681 : Int32) * nI t = nI (681 * t) := nI_mul 681 t
  have F : Fr (frY t) ν (si (si (si (si (si ν 313 12 (nI (681 * t))) 316 (681 * t) 0) 313 13 0) 313 19 0) 313 7 0) := Fr_si (Fr_si (Fr_si (Fr_si (Fr_si (Fr_rfl _ _) _ (Or.inr ⟨rfl, Or.inl rfl⟩)) _ (Or.inl (Or.inr (Or.inl ⟨rfl, by omega, by omega⟩)))) _ (Or.inr ⟨rfl, Or.inr (Or.inl rfl)⟩)) _ (Or.inr ⟨rfl, Or.inr (Or.inr rfl)⟩)) _ (Or.inl (Or.inl (Or.inl ⟨rfl, by omega, by omega⟩)))
  have T1 : TpM β n (si (si (si (si (si ν 313 12 (nI (681 * t))) 316 (681 * t) 0) 313 13 0) 313 19 0) 313 7 0) := TpM_keep h (by rw [gi_si_j _ _ _ (by omega), gi_si_j _ _ _ (by omega), gi_si_j _ _ _ (by omega), gi_si_q _ _ _ _ (by omega), gi_si_j _ _ _ (by omega)]) (fun i => by rw [gi_si_q _ _ _ _ (by omega), gi_si_q _ _ _ _ (by omega), gi_si_q _ _ _ _ (by omega), gi_si_q _ _ _ _ (by omega), gi_si_q _ _ _ _ (by omega)])
  obtain ⟨ν3, b1, b2, b3⟩ := m_tok (β := β) (n := n) (p := 0) (Nat.zero_le _) T1 (by rw [gi_si_s]; rfl)
  refine ⟨ν3, ?_, ⟨b2, ⟨ht, ?_, ?_, fun i hi => absurd hi (Nat.not_lt_zero _)⟩, ⟨?_, fun k hk => absurd hk (Nat.not_lt_zero _)⟩, ?_⟩, Fr_tr F (Fr_mono b3 (fun q j m => Or.inl (Or.inl (Or.inl m))))⟩
  · unfold Md_readText Md_readText_34
    rw [h2, e0, gi_si_s, inb_nI (by omega), nI_clamp (by omega), if_pos (by simp; omega), b1, Option.bind_some]
  · rw [b3.1 _ _ (by unfold frM; omega), gi_si_j _ _ _ (by omega), gi_si_j _ _ _ (by omega), gi_si_j _ _ _ (by omega), gi_si_q _ _ _ _ (by omega), gi_si_s]
  · rw [b3.1 _ _ (by unfold frM; omega), gi_si_j _ _ _ (by omega), gi_si_j _ _ _ (by omega), gi_si_s]; rfl
  · rw [b3.1 _ _ (by unfold frM; omega), gi_si_q _ _ _ _ (by omega), gi_si_q _ _ _ _ (by omega), gi_si_q _ _ _ _ (by omega), gi_si_s]; rfl
  · rw [b3.1 _ _ (by unfold frM; omega), gi_si_j _ _ _ (by omega), gi_si_s]; rfl
/-- a text that class and model hold -/
def dTx (K : List (Nat × Nat × Nat)) (c : List (Nat × Nat)) (b e : Nat → Nat) : TD := (K.length, fun k => K.getD k z3, fun i => c.getD i (0, 0), b, e)
theorem to1_ok {β : Nat → Nat} {n L p p2 t : Nat} {K : List (Nat × Nat × Nat)} {c : List (Nat × Nat)} {b e : Nat → Nat} {ν1 ν2 ν : Nm} (hC : CC β n L (285 + 7 * t) p K c b e ν1) (hM : MC β n t p2 K c b e ν2) (hW : WTx K c b e) (h1 : ∀ q j, 285 + 7 * t ≤ q → q < 285 + 7 * t + 7 → gi ν q j = gi ν1 q j) (h2 : ∀ j, gi ν 316 j = gi ν2 316 j) : TO1 (dTx K c b e) (285 + 7 * t) (681 * t) ν := by
  obtain ⟨hS, c1, c2, c3⟩ := hC
  obtain ⟨m1, m2, m3, m4⟩ := hM
  obtain ⟨w1, w2, w3, w4⟩ := hW
  have law : ∀ l, l < 2 → LawW K c b e l → TLaw (dTx K c b e) (285 + 7 * t) (681 * t) l ν := fun l hl h => by
    obtain ⟨x1, x2⟩ := c3 l hl
    rcases h with ⟨k, k1, k2, k3, k4, k5, k6, k7, k8⟩ | ⟨k1, k2, k3⟩
    · obtain ⟨y1, y2, y3, y4⟩ := m3.2 k k1
      obtain ⟨z1, z2⟩ := y4 (by rw [k2]; exact hl)
      rw [k2] at z1 z2
      refine Or.inl ⟨k, k1, k2, k3, k4, k5, by rw [h1 _ _ (by omega) (by omega)]; exact x1, by rw [h1 _ _ (by omega) (by omega)]; exact x2, by rw [h2]; exact z1, by rw [h2]; exact z2, fun i i1 i2 => ⟨?_, ?_, ?_⟩, k7, k8⟩
      · have i2 : i < e l := i2
        rw [h1 _ _ (by omega) (by omega)]; exact hS.2.2.2.2.2.2 i (by omega)
      · have i2 : i < e l := i2
        rw [h2]; exact (m2.2.2.2 i (by omega)).1
      · have i2 : i < e l := i2
        rw [h2]; exact (m2.2.2.2 i (by omega)).2
    · exact Or.inr ⟨k1, k2, k3, by rw [h1 _ _ (by omega) (by omega), x1, k2], by rw [h1 _ _ (by omega) (by omega), x2, k3]⟩
  refine ⟨w1, by rw [h1 _ _ (by omega) (by omega)]; exact c1, by rw [h2]; exact m3.1, fun k hk => ?_, law 0 (by omega) w3, law 1 (by omega) w4⟩
  have hk : k < K.length := hk
  obtain ⟨x1, x2, x3⟩ := c2 k hk
  obtain ⟨y1, y2, y3, y4⟩ := m3.2 k hk
  refine ⟨w2 k hk, by rw [h1 _ _ (by omega) (by omega)]; exact x1, by rw [h2]; exact y1, fun q1 q2 => ⟨by rw [h1 _ _ (by omega) (by omega)]; exact x2 q1 q2, by rw [h2]; exact y2 q1 q2⟩, fun q1 => ⟨by rw [h1 _ _ (by omega) (by omega)]; exact x3 q1, by rw [h2]; exact y3 q1⟩⟩

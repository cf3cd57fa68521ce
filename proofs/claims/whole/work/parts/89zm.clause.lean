/-! A clause: the class's way through it, and the model's. -/
theorem sr_T : ∀ T, T < 132 → srT T < 10 → T = kdK (srT T) := by decide +kernel
theorem sr_no : ∀ T, T < 132 → srT T = 10 → T < 2 ∨ T = 5 ∨ 12 < T := by decide +kernel
theorem sr_le (T : Nat) : srT T ≤ 10 := by
  unfold srT
  repeat' split
  all_goals omega
theorem bsome (x : Option Nm) : (x.bind fun v => some v) = x := by cases x <;> rfl
theorem rc_bad {ν : Nm} {T : Nat} (k : Int32) (h : gi ν 271 5 = nI T) (hT : T ≤ 131) (hs : srT T = 10) : Rd_readClause k ν = Rd_fail 1 ν := by
  have h3 := sr_no T (by omega) hs
  unfold Rd_readClause Rd_readClause_15 Rd_readClause_20 Rd_readClause_37
  rw [h, bsome, if_neg (by rw [show (2 : Int32) = nI 2 from rfl, nI_eq' (by omega) (by omega)]; intro z; rw [z] at hs; exact absurd hs (by decide)), if_pos (by rw [show (3 : Int32) = nI 3 from rfl, nI_eq' (by omega) (by omega)]; intro z; rw [z] at hs; exact absurd hs (by decide))]
  by_cases c1 : T < 2
  · rw [if_pos (by rw [show (2 : Int32) = nI 2 from rfl, nI_lt' (by omega) (by omega)]; exact c1)]
  · rw [if_neg (by rw [show (2 : Int32) = nI 2 from rfl, nI_lt' (by omega) (by omega)]; exact c1)]
    by_cases c2 : 12 < T
    · rw [if_pos (by rw [show (12 : Int32) = nI 12 from rfl, nI_lt' (by omega) (by omega)]; exact c2)]
    · rw [if_neg (by rw [show (12 : Int32) = nI 12 from rfl, nI_lt' (by omega) (by omega)]; exact c2), if_neg (by rw [show (5 : Int32) = nI 5 from rfl, nI_eq' (by omega) (by omega)]; omega)]
theorem rc_act {ν : Nm} {s : Nat} (k : Int32) (h : gi ν 271 5 = nI (kdK s)) (h2 : 2 ≤ s) (h10 : s < 10) : Rd_readClause k ν = Rd_readClause_70 k (nI (kdK s)) 0 ν := by
  unfold Rd_readClause Rd_readClause_15 Rd_readClause_20
  rw [h]
  rcases (show s = 2 ∨ s = 3 ∨ s = 4 ∨ s = 5 ∨ s = 6 ∨ s = 7 ∨ s = 8 ∨ s = 9 by omega) with rfl | rfl | rfl | rfl | rfl | rfl | rfl | rfl <;> rw [if_neg (by decide), if_pos (by decide), if_neg (by decide), if_neg (by decide), if_pos (by decide), if_pos rfl]
theorem rc_law {ν : Nm} {s T : Nat} (k : Int32) (hT : okT T) (hx : gx ν = T) (h : gi ν 271 5 = nI (kdK s)) (h2 : s < 2) : Rd_readClause k ν = (Tx_rules ν T (nI s)).bind fun v6 => if (b2i v6) = 0 then Rd_readClause_70 k (nI (kdK s)) 1 ν else Rd_fail 4 ν := by
  unfold Rd_readClause Rd_readClause_15 Rd_readClause_20
  rw [h, hx, okT_z hT, bsome]
  rcases (show s = 0 ∨ s = 1 by omega) with rfl | rfl
  · rw [if_pos (by decide), if_neg (by decide), if_neg (by decide), if_pos (by decide), if_neg (by decide), if_pos rfl]; rfl
  · rw [if_neg (by decide), if_neg (by decide), if_neg (by decide), if_neg (by decide), if_pos (by decide), if_neg (by decide), if_pos rfl]; rfl
theorem ifn_bind {c : Prop} [Decidable c] (a : Option Nm) (f : Nm → Option Nm) : (if c then a else none).bind f = if c then a.bind f else none := by
  by_cases h : c
  · rw [if_pos h, if_pos h]
  · rw [if_neg h, if_neg h]; rfl
theorem rc_70 {ν : Nm} {s k : Nat} (hk : k < 24) : Rd_readClause_70 (nI k) (nI (kdK s)) (if s < 2 then 1 else 0) ν = (Rd_next ν).bind fun v2 => (if s < 2 then Rd_readLaw (nI (kdK s)) v2 else Rd_readAct (nI (kdK s)) v2).bind fun v4 => Rd_expect 59 v4 := by
  unfold Rd_readClause_70
  rw [if_pos (by rw [show (24 : Int32) = nI 24 from rfl, nI_lt' (by omega) (by omega)]; exact hk)]
  by_cases h2 : s < 2
  · rw [if_pos h2]
    congr 1
    funext v2
    rw [if_neg (by decide), if_pos h2]
    unfold Rd_readLaw Rd_readLaw_26 Rd_readClause_119 Rd_readClause_160
    simp only [ifn_bind, Option.bind_assoc, Option.bind_some, bsome]
  · rw [if_neg h2]
    congr 1
    funext v2
    rw [if_pos rfl, if_neg h2]
    congr 1
    funext v5
    exact bsome _
theorem rc_24 {ν : Nm} (x y : Int32) : Rd_readClause_70 (nI 24) x y ν = Rd_fail 6 ν := by
  unfold Rd_readClause_70
  rw [if_neg (by decide), bsome]
/-! The model. -/
def XM (t : Nat) (K : List (Nat × Nat × Nat)) (b e : Nat → Nat) (ν : Nm) : Prop := gi ν 316 (681 * t) = nI K.length ∧ ∀ k, k < K.length → gi ν 316 (681 * t + 1 + 3 * k) = nI (K.getD k z3).1 ∧ (2 ≤ (K.getD k z3).1 → (K.getD k z3).1 ≠ 8 → gi ν 316 (681 * t + 2 + 3 * k) = nI (K.getD k z3).2.1) ∧ ((K.getD k z3).1 = 2 → gi ν 316 (681 * t + 3 + 3 * k) = nI (K.getD k z3).2.2) ∧ ((K.getD k z3).1 < 2 → gi ν 316 (681 * t + 2 + 3 * k) = nI (b (K.getD k z3).1) ∧ gi ν 316 (681 * t + 3 + 3 * k) = nI (e (K.getD k z3).1))
def seenN (b e : Nat → Nat) (l : Nat) : Nat := if b l < e l then 1 else 0
def MC (β : Nat → Nat) (n t p : Nat) (K : List (Nat × Nat × Nat)) (c : List (Nat × Nat)) (b e : Nat → Nat) (ν : Nm) : Prop := MTk β n p ν ∧ CDr t c ν ∧ XM t K b e ν ∧ gi ν 313 19 = nI (seenN b e 0 + 2 * seenN b e 1)
def frX (t q j : Nat) : Prop := frR t q j ∨ (q = 316 ∧ 681 * t ≤ j ∧ j < 681 * t + 681) ∨ (q = 313 ∧ (j = 14 ∨ j = 19))
theorem XM_add {t s x y : Nat} {K : List (Nat × Nat × Nat)} {b e b2 e2 : Nat → Nat} {ν ν2 : Nm} (h : XM t K b e ν) (hn : gi ν2 316 (681 * t) = nI (K.length + 1)) (hk : ∀ j, 681 * t < j → j < 681 * t + 1 + 3 * K.length → gi ν2 316 j = gi ν 316 j) (h1 : gi ν2 316 (681 * t + 1 + 3 * K.length) = nI s) (h2 : 2 ≤ s → s ≠ 8 → gi ν2 316 (681 * t + 2 + 3 * K.length) = nI x) (h3 : s = 2 → gi ν2 316 (681 * t + 3 + 3 * K.length) = nI y) (h4 : s < 2 → gi ν2 316 (681 * t + 2 + 3 * K.length) = nI (b2 s) ∧ gi ν2 316 (681 * t + 3 + 3 * K.length) = nI (e2 s)) (hb : ∀ k, k < K.length → (K.getD k z3).1 < 2 → b2 (K.getD k z3).1 = b (K.getD k z3).1 ∧ e2 (K.getD k z3).1 = e (K.getD k z3).1) : XM t (K ++ [(s, x, y)]) b2 e2 ν2 := by
  obtain ⟨g1, g2⟩ := h
  refine ⟨by rw [hn, List.length_append]; rfl, fun k hk2 => ?_⟩
  rw [List.length_append, List.length_singleton] at hk2
  by_cases z : k = K.length
  · subst z
    rw [getD_app_s]
    exact ⟨h1, h2, h3, h4⟩
  · rw [getD_app_l _ _ _ (by omega)]
    obtain ⟨a1, a2, a3, a4⟩ := g2 k (by omega)
    refine ⟨by rw [hk _ (by omega) (by omega)]; exact a1, fun q1 q2 => by rw [hk _ (by omega) (by omega)]; exact a2 q1 q2, fun q1 => by rw [hk _ (by omega) (by omega)]; exact a3 q1, fun q1 => ?_⟩
    obtain ⟨c1, c2⟩ := hb k (by omega) q1
    rw [c1, c2, hk _ (by omega) (by omega), hk _ (by omega) (by omega)]
    exact a4 q1
theorem has_all : ∀ x, x < 2 → ∀ y, y < 2 → Md_has (nI (x + 2 * y)) (nI 0) = some (decide (x = 1)) ∧ Md_has (nI (x + 2 * y)) (nI 1) = some (decide (y = 1)) ∧ nI (x + 2 * y) ||| ((1 : Int32) <<< (nI 0 &&& 31)) = nI (1 + 2 * y) ∧ nI (x + 2 * y) ||| ((1 : Int32) <<< (nI 1 &&& 31)) = nI (x + 2) := by decide +kernel
theorem seenN_2 (b e : Nat → Nat) (l : Nat) : seenN b e l < 2 := by unfold seenN; split <;> omega
theorem seenN_1 (b e : Nat → Nat) (l : Nat) : seenN b e l = 1 ↔ b l < e l := by
  unfold seenN
  by_cases h : b l < e l
  · rw [if_pos h]; exact ⟨fun _ => h, fun _ => rfl⟩
  · rw [if_neg h]; exact ⟨fun z => absurd z (by omega), fun z => absurd z h⟩
/-- from a clause's first word on -/
theorem m_c65 {β : Nat → Nat} {n p t s : Nat} {K : List (Nat × Nat × Nat)} {c : List (Nat × Nat)} {b e : Nat → Nat} {ν : Nm} {r : Bo} (hn : n ≤ 300) (hp : p ≤ n) (hs : s < 10) (hT0 : tT β n p ≠ 0) (hK : K.length < 24) (hc : c.length ≤ p) (hM : MTk β n p ν) (hC : CDr t c ν) (hX : XM t K b e ν) (hB : BM β n s (tE β n p) c r) (hP : BP β n s (tE β n p) r)
    (hno : s < 2 → ∀ k, k < K.length → (K.getD k z3).1 ≠ s) :
    ∃ ν2, (r.1 ≠ 0 → Md_clause_65 (nI s) (nI K.length) ν = some (nI r.1, ν2) ∧ gi ν2 313 8 = nI r.2.1) ∧ (r.1 = 0 → tT β n r.2.1 ≠ 59 → Md_clause_65 (nI s) (nI K.length) ν = some (nI 1, ν2) ∧ gi ν2 313 8 = nI (tS β n r.2.1)) ∧ (r.1 = 0 → tT β n r.2.1 = 59 → Md_clause_65 (nI s) (nI K.length) ν = some (nI 0, ν2) ∧ MTk β n (tE β n r.2.1) ν2 ∧ CDr t (c ++ r.2.2.2.2) ν2 ∧ XM t (K ++ [(s, r.2.2.1, r.2.2.2.1)]) (bbN b s c.length) (bbN e s (c.length + r.2.2.2.2.length)) ν2) ∧ Fr (frX t) ν ν2 ∧ gi ν2 313 19 = gi ν 313 19 := by
  have ht := hC.1
  obtain ⟨q1, q2, q3, q4⟩ := tok_pos (β := β) hp
  have f0 : Fr (frX t) ν (si ν 313 14 (nI s)) := Fr_si (Fr_rfl _ _) _ (Or.inr (Or.inr ⟨rfl, Or.inl rfl⟩))
  have M0 : MTk β n p (si ν 313 14 (nI s)) := MTk_keep hM (fun j hj => gi_si_j _ _ _ (by omega)) (fun i => gi_si_q _ _ _ _ (by omega)) rfl
  have C0 : CDr t c (si ν 313 14 (nI s)) := CDr_keep hC (by omega) (gi_si_j _ _ _ (by omega)) (gi_si_j _ _ _ (by omega)) (fun j _ _ => gi_si_q _ _ _ _ (by omega))
  obtain ⟨ν1, a1, a2, a3, a4⟩ := m_adv2 M0 hp hT0 C0 (by omega)
  have ex : gi ν1 313 12 + (1 : Int32) + (3 : Int32) * nI K.length = nI (681 * t + 1 + 3 * K.length) := by
    rw [a3.2.1, show (1 : Int32) = nI 1 from rfl, show (3 : Int32) = nI 3 from rfl, nI_mul, nI_add, nI_add]
  obtain ⟨M1, C1⟩ := M_cell a2 a3 (by omega) (x := 681 * t + 1 + 3 * K.length) (by omega) (nI s)
  have k14 : gi (si ν1 316 (681 * t + 1 + 3 * K.length) (nI s)) 313 14 = nI s := by rw [gi_si_q _ _ _ _ (by omega), a4.1 _ _ (by unfold frM; omega), gi_si_s]
  obtain ⟨ν2, d1, d2, d3, d4⟩ := hB t K.length _ hK M1 C1 k14 (by omega)
  have f1 : Fr (frX t) ν (si ν1 316 (681 * t + 1 + 3 * K.length) (nI s)) := Fr_si (Fr_tr f0 (Fr_mono a4 (fun q j m => Or.inl (Or.inl m)))) _ (Or.inr (Or.inl ⟨rfl, by omega, by omega⟩))
  have f2 : Fr (frX t) ν ν2 := Fr_tr f1 (Fr_mono d4 (fun q j m => m.elim (fun z => Or.inl z) (fun z => Or.inr (Or.inl ⟨z.1, by omega, by omega⟩))))
  have k19 : gi ν2 313 19 = gi ν 313 19 := by rw [d4.1 _ _ (by unfold frB frR frM frS frE; omega), gi_si_q _ _ _ _ (by omega), a4.1 _ _ (by unfold frM; omega), gi_si_j _ _ _ (by omega)]
  have e65 : Md_clause_65 (nI s) (nI K.length) ν = (if nI r.1 = 0 then if inb (gi ν2 313 12) 2724 then if inb (gi ν2 313 12) 2724 then (if (gi (si ν2 316 (gi ν2 313 12).toNatClampNeg ((gi ν2 316 (gi ν2 313 12).toNatClampNeg) + (1 : Int32))) 313 9) = (59 : Int32) then (Md_nextToken (si ν2 316 (gi ν2 313 12).toNatClampNeg ((gi ν2 316 (gi ν2 313 12).toNatClampNeg) + (1 : Int32)))).bind fun v8 => some ((0 : Int32), v8) else some ((1 : Int32), (si ν2 316 (gi ν2 313 12).toNatClampNeg ((gi ν2 316 (gi ν2 313 12).toNatClampNeg) + (1 : Int32))))) else none else none else some (nI r.1, ν2)) := by
    unfold Md_clause_65
    rw [a1, Option.bind_some, ex, inb_nI (by omega), nI_clamp (by omega), if_pos (by simp; omega), d1, Option.bind_some]
  by_cases s1 : r.1 = 0
  · obtain ⟨b1, b2, b3, b4, b5⟩ := d2 s1
    obtain ⟨p1, p2, p3, p4, p5, p6⟩ := hP.1 s1
    have kc : gi ν2 313 12 = nI (681 * t) := b2.2.1
    have hlen : (c ++ r.2.2.2.2).length = c.length + r.2.2.2.2.length := List.length_append
    have kn : gi ν2 316 (681 * t) = nI K.length := by
      rw [d4.1 _ _ (by unfold frB frR frM frS frE; omega), gi_si_j _ _ _ (by omega), a4.1 _ _ (by unfold frM; omega), gi_si_q _ _ _ _ (by omega)]; exact hX.1
    rw [kc, s1, if_pos (show nI 0 = (0 : Int32) from rfl), inb_nI (by omega), nI_clamp (by omega), if_pos (by simp; omega), if_pos (by simp; omega), kn, show nI K.length + 1 = nI (K.length + 1) from nI_add _ 1] at e65
    obtain ⟨M3, C3⟩ := M_cell b1 b2 (by omega) (x := 681 * t) (by omega) (nI (K.length + 1))
    have f3 : Fr (frX t) ν (si ν2 316 (681 * t) (nI (K.length + 1))) := Fr_si f2 _ (Or.inr (Or.inl ⟨rfl, by omega, by omega⟩))
    have e59 : (gi (si ν2 316 (681 * t) (nI (K.length + 1))) 313 9 = (59 : Int32)) = (tT β n r.2.1 = 59) := tr_eq M3.2.2.2.2 (show (59, 59) ∈ tkL by decide)
    simp only [e59] at e65
    have k19b : gi (si ν2 316 (681 * t) (nI (K.length + 1))) 313 19 = gi ν 313 19 := by rw [gi_si_q _ _ _ _ (by omega)]; exact k19
    by_cases s2 : tT β n r.2.1 = 59
    · rw [if_pos s2] at e65
      obtain ⟨ν4, g1, g2, g3, g4⟩ := m_adv2 M3 p2 (by omega) C3 (by omega)
      rw [g1, Option.bind_some] at e65
      refine ⟨ν4, fun z => absurd s1 z, fun _ z => absurd s2 z, fun _ _ => ⟨e65, g2, g3, ?_⟩, Fr_tr f3 (Fr_mono g4 (fun q j m => Or.inl (Or.inl m))), by rw [g4.1 _ _ (by unfold frM; omega)]; exact k19b⟩
      have kk : ∀ j, j ≠ 681 * t → gi ν4 316 j = gi ν2 316 j := fun j hj => by rw [g4.1 _ _ (by unfold frM; omega), gi_si_j _ _ _ hj]
      refine XM_add hX ?_ (fun j j1 j2 => ?_) ?_ (fun y1 y2 => ?_) (fun y1 => ?_) (fun y1 => ?_) (fun k hk y1 => ?_)
      · rw [g4.1 _ _ (by unfold frM; omega), gi_si_s]
      · rw [kk _ (by omega), d4.1 _ _ (by unfold frB frR frM frS frE; omega), gi_si_j _ _ _ (by omega), a4.1 _ _ (by unfold frM; omega), gi_si_q _ _ _ _ (by omega)]
      · rw [kk _ (by omega), d4.1 _ _ (by unfold frB frR frM frS frE; omega), gi_si_s]
      · rw [kk _ (by omega)]; exact b3 y1 y2
      · rw [kk _ (by omega)]; exact b4 y1
      · obtain ⟨w1, w2⟩ := b5 y1
        unfold bbN
        rw [if_pos y1, if_pos y1, upn_s, upn_s, kk _ (by omega), kk _ (by omega)]
        exact ⟨w1, w2⟩
      · unfold bbN
        by_cases y2 : s < 2
        · rw [if_pos y2, if_pos y2, upn_n _ _ (hno y2 k hk), upn_n _ _ (hno y2 k hk)]; exact ⟨rfl, rfl⟩
        · rw [if_neg y2, if_neg y2]; exact ⟨rfl, rfl⟩
    · rw [if_neg s2] at e65
      exact ⟨_, fun z => absurd s1 z, fun _ _ => ⟨e65, M3.2.1⟩, fun _ z => absurd z s2, f3, k19b⟩
  · rw [if_neg (by rw [show (0 : Int32) = nI 0 from rfl, nI_eq' (by have := (hP.2 s1).1; omega) (by omega)]; exact s1)] at e65
    exact ⟨ν2, fun _ => ⟨e65, d3 s1⟩, fun z => absurd z s1, fun z => absurd z s1, f2, k19⟩

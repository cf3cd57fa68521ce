/-! One: a number, a name, something that opens. -/
def frO (o : Oc) : Prop := o.1 = 0
/-- what is shown of the machine, with unary operations ahead, is what the chain asks -/
theorem one_mk {β : Nat → Nat} {n L p d : Nat} {o : Oc} (h1 : ∀ F, 9 * (8 - d) + 2 ≤ F → GC β n L 2 F p d o) (h2 : ∀ (U X : List Nat) (c : List (Nat × Nat)), (∀ u ∈ U, rk u = 7) → hdR 7 X → cnO (U ++ X) = d → (U ++ X).length ≤ 6 * d + 5 → (tT β n p = 21 → askA (U ++ X) = false) → (o.1 = 0 → Rc β n L (false, p, U ++ X, c) (true, o.2.1, X, c ++ o.2.2 ++ zz U)) ∧ (o.1 ≠ 0 → Ff β n L (false, p, U ++ X, c) o.1 o.2.1)) (h3 : PO β n L p true stO o) : ∃ o, GdO β n L p d o := by
  refine ⟨o, ⟨h1, fun X c x1 x2 x3 _ x5 => ?_, h3⟩, h2⟩
  obtain ⟨m1, m2⟩ := h2 [] X c (fun u hu => by cases hu) x3 x1 x2 (x5 rfl)
  refine ⟨fun z => ⟨[], o.2.2, (fun y hy => by cases hy), (fun z => by cases z), ?_, ?_⟩, m2⟩
  · show o.2.2 = o.2.2 ++ zz []
    unfold zz; rw [List.map_nil, List.append_nil]
  · have := m1 z
    unfold zz at this
    rw [List.map_nil, List.append_nil] at this
    exact this
theorem gO_eq (F : Nat) (ν : Nm) : G_rd (F + 1) 2 0 ν = Rd_readOne (G_rd F) ν := by rw [G_rd, if_neg (by omega), if_neg (by omega), if_pos rfl]
theorem cp_fail {β : Nat → Nat} {n L T d f pl : Nat} {c : List (Nat × Nat)} {ν : Nm} (hf : f ≠ 0) (h : CFl T f pl ν) : CPo β n L T d c (f, pl, []) ν := ⟨fun z => absurd z hf, fun _ => h⟩
theorem po_fail {β : Nat → Nat} {n L p f q : Nat} {b : Bool} {st : Nat → Prop} (hf : f ≠ 0) (h6 : f ≤ 6) (hq : q ≤ n) : PO β n L p b st (f, q, []) := ⟨fun z => absurd z hf, fun _ => ⟨h6, hq⟩⟩
/-- the class, at a token that it takes or refuses at once -/
theorem one_fail {β : Nat → Nat} {n L p d f : Nat} (hp : p ≤ n) (hn : n ≤ 300) (hf : f ≠ 0) (h6 : f ≤ 6) (hc : ∀ F T c ν, okT T → CSt β n L T p d c ν → c.length ≤ p → 2 ≤ F → ∃ ν2, G_rd F 2 0 ν = some ν2 ∧ CFl T f (tS β n p) ν2 ∧ Fr (frC T) ν ν2) (hm : ∀ (X : List Nat) (c : List (Nat × Nat)), cnO X = d → (tT β n p = 21 → askA X = false) → ∃ w, mbeg β n L p X c = some (f, (w, p, X, c))) : ∃ o, GdO β n L p d o := by
  have hpos := tok_pos (β := β) hp
  refine one_mk (o := (f, tS β n p, [])) (fun F hF T c ν hT hC hl => ?_) (fun U X c u1 u2 u3 u4 u5 => ⟨fun z => absurd z hf, fun _ => ?_⟩) (po_fail hf h6 (by omega))
  · obtain ⟨ν2, e1, e2, e3⟩ := hc F T c ν hT hC hl (by omega)
    exact ⟨ν2, e1, cp_fail hf e2, e3⟩
  · obtain ⟨w, hw⟩ := hm (U ++ X) c u3 u5
    exact Ff_beg hw hf hp
theorem one_leaf {β : Nat → Nat} {n L p d : Nat} (hp : p ≤ n) (hn : n ≤ 300) (h0 : tT β n p ≠ 0) (h131 : tT β n p ≠ 131) (x : Nat × Nat) (hc : ∀ F T c ν, okT T → CSt β n L T p d c ν → c.length ≤ p → 2 ≤ F → G_rd F 2 0 ν = (Tx_addCode T (itm x) ν).bind fun v => (Rd_next v).bind fun v2 => some v2) (hm : ∀ (X : List Nat) (c : List (Nat × Nat)), cnO X = d → mbeg β n L p X c = some (0, lf β n p X c x)) (ht : ∀ s, tyE x s = some (true :: s)) (hx : nmOK L [x]) : ∃ o, GdO β n L p d o := by
  have hpos := tok_pos (β := β) hp
  have hlt := hpos.2.2.2 h0 h131
  refine one_mk (o := (0, tE β n p, [x])) (fun F hF T c ν hT hC hl => ?_) (fun U X c u1 u2 u3 u4 u5 => ⟨fun _ => ?_, fun z => absurd rfl z⟩) ⟨fun _ => ⟨by show p < tE β n p; omega, hpos.2.2.1, by show p + 1 ≤ tE β n p; omega, fun s => ?_, hx, True.intro⟩, fun z => absurd rfl z⟩
  · rw [hc F T c ν hT hC hl (by omega)]
    obtain ⟨v1, a1, a2, a3⟩ := cs_add hT hC (by omega) x
    obtain ⟨v2, b1, b2, b3⟩ := cs_next hT hp a2
    exact ⟨v2, by rw [a1, Option.bind_some, b1]; rfl, ⟨fun _ => b2, fun z => absurd rfl z⟩, Fr_tr a3 b3⟩
  · refine Rc_beg ?_ (by show p + 1 ≤ tE β n p; omega)
    rw [hm (U ++ X) c u3]
    unfold lf
    rw [stl_app U X (c ++ [x]) (fun u hu => by rw [u1 u hu]; exact Nat.le_refl _) u2]
  · show (tyE x s).bind (tyL []) = _
    rw [ht]; rfl
theorem isName_all : ∀ T, T < 132 → Rd_isName (nI T) = some (decide (nmT T < 7)) := by decide +kernel
theorem nmK_T : ∀ T, T < 132 → nmT T < 7 → itm (1, nmT T) = -(nI T) := by decide +kernel
theorem one_num {β : Nat → Nat} {n L p d : Nat} (hp : p ≤ n) (hn : n ≤ 300) (h1 : tT β n p = 1) : ∃ o, GdO β n L p d o := by
  have hN := tN_le β n p
  by_cases q : 9999 < tN β n p
  · refine one_fail hp hn (f := 2) (by omega) (by omega) (fun F T c ν hT hC hl hF => ?_) (fun X c hX hA => ⟨false, ?_⟩)
    · obtain ⟨F, rfl⟩ : ∃ k, F = k + 1 := ⟨F - 1, by omega⟩
      obtain ⟨v2, e1, e2, e3⟩ := cs_fail hT hC (by omega) 2
      rw [gO_eq]
      unfold Rd_readOne
      rw [hC.1.2.2.1, h1, if_neg (fun z => z rfl), hC.1.2.2.2.2 h1, if_neg (by rw [show (9999 : Int32) = nI 9999 from rfl, nI_le' (by omega) (by omega)]; omega), show (2 : Int32) = nI 2 from rfl, e1]
      exact ⟨v2, rfl, e2, e3⟩
    · unfold mbeg
      rw [if_pos h1, if_pos q]
  · refine one_leaf hp hn (by omega) (by omega) (0, tN β n p) (fun F T c ν hT hC hl hF => ?_) (fun X c hX => ?_) (fun s => ?_) (fun x hx e => by rw [List.mem_singleton.mp hx] at e; cases e)
    · obtain ⟨F, rfl⟩ : ∃ k, F = k + 1 := ⟨F - 1, by omega⟩
      have hx : gx ν = T := hC.2.2.2.2.1
      rw [gO_eq]
      unfold Rd_readOne
      rw [hC.1.2.2.1, h1, if_neg (fun z => z rfl), hC.1.2.2.2.2 h1, show min 10000 (tN β n p) = tN β n p by omega, if_pos (by rw [show (9999 : Int32) = nI 9999 from rfl, nI_le' (by omega) (by omega)]; omega), hx, if_pos (okT_z hT)]
      rfl
    · unfold mbeg
      rw [if_pos h1, if_neg q]
    · unfold tyE
      rw [if_pos rfl, if_pos (show (0, tN β n p).2 ≤ 9999 by show tN β n p ≤ 9999; omega)]
theorem one_name {β : Nat → Nat} {n L p d : Nat} (hp : p ≤ n) (hn : n ≤ 300) (hle : tT β n p ≤ 131) (hL : L < 2) (h1 : nmT (tT β n p) < 7) : ∃ o, GdO β n L p d o := by
  obtain ⟨k1, k2, k3⟩ := nm_tok (tT β n p) (by omega) h1
  have eN := isName_all (tT β n p) (by omega)
  rw [decide_eq_true h1] at eN
  by_cases q : tT β n p = 26 ∧ L ≠ 0
  · refine one_fail hp hn (f := 5) (by omega) (by omega) (fun F T c ν hT hC hl hF => ?_) (fun X c hX hA => ⟨false, ?_⟩)
    · obtain ⟨F, rfl⟩ : ∃ k, F = k + 1 := ⟨F - 1, by omega⟩
      obtain ⟨v2, e1, e2, e3⟩ := cs_fail hT hC (by omega) 5
      rw [gO_eq]
      unfold Rd_readOne
      rw [hC.1.2.2.1, if_pos (by rw [show (1 : Int32) = nI 1 from rfl, nI_eq' (by omega) (by omega)]; exact k3), eN, Option.bind_some, if_neg (by rw [b2iT]; exact id), if_neg (by rw [q.1]; exact fun z => z rfl), hC.2.2.2.1, if_neg (by rw [show (0 : Int32) = nI 0 from rfl, nI_eq' (by omega) (by omega)]; exact q.2), show (5 : Int32) = nI 5 from rfl, e1]
      exact ⟨v2, rfl, e2, e3⟩
    · unfold mbeg
      rw [if_neg k3, if_pos h1, if_pos q]
  · refine one_leaf hp hn k1 k2 (1, nmT (tT β n p)) (fun F T c ν hT hC hl hF => ?_) (fun X c hX => ?_) (fun s => ?_) (fun x hx e => ?_)
    · obtain ⟨F, rfl⟩ : ∃ k, F = k + 1 := ⟨F - 1, by omega⟩
      have hx : gx ν = T := hC.2.2.2.2.1
      rw [gO_eq, nmK_T _ (by omega) h1]
      unfold Rd_readOne Rd_readOne_78
      rw [hC.1.2.2.1, if_pos (by rw [show (1 : Int32) = nI 1 from rfl, nI_eq' (by omega) (by omega)]; exact k3), eN, Option.bind_some, if_neg (by rw [b2iT]; exact id), hx, if_pos (okT_z hT), hC.2.2.2.1]
      by_cases q2 : tT β n p = 26
      · have hL0 : L = 0 := by
          apply Classical.byContradiction
          intro z
          exact q ⟨q2, z⟩
        rw [if_neg (by rw [q2]; exact fun z => z rfl), if_pos (by rw [hL0]; rfl)]
      · rw [if_pos (by rw [show (26 : Int32) = nI 26 from rfl, nI_eq' (by omega) (by omega)]; exact q2)]
    · unfold mbeg
      rw [if_neg k3, if_pos h1, if_neg q]
    · unfold tyE
      rw [if_neg (show ¬ ((1 : Nat) = 0) by omega), if_pos rfl, if_pos (show (1, nmT (tT β n p)).2 < 7 from h1)]
    · rw [List.mem_singleton.mp hx]
      refine ⟨h1, fun hL e6 => q ⟨(nm_6 (tT β n p) (by omega)).mp e6, hL⟩⟩
theorem one_none {β : Nat → Nat} {n L p d : Nat} (hp : p ≤ n) (hn : n ≤ 300) (hle : tT β n p ≤ 131) (h1 : tT β n p ≠ 1) (h2 : ¬ nmT (tT β n p) < 7) (h3 : tT β n p ≠ 40) (h4 : tT β n p ≠ 45) (h5 : tT β n p ≠ 13) (h6 : tT β n p ≠ 14) (h7 : tT β n p ≠ 15) : ∃ o, GdO β n L p d o := by
  have eN := isName_all (tT β n p) (by omega)
  rw [decide_eq_false h2] at eN
  refine one_fail hp hn (f := 1) (by omega) (by omega) (fun F T c ν hT hC hl hF => ?_) (fun X c hX hA => ⟨false, ?_⟩)
  · obtain ⟨F, rfl⟩ : ∃ k, F = k + 1 := ⟨F - 1, by omega⟩
    obtain ⟨v2, e1, e2, e3⟩ := cs_fail hT hC (by omega) 1
    have ne : ∀ k, k ≤ 131 → tT β n p ≠ k → nI (tT β n p) ≠ nI k := fun k hk z => by rw [ne_eq, nI_eq' (by omega) (by omega)]; exact z
    rw [gO_eq]
    unfold Rd_readOne
    rw [hC.1.2.2.1, if_pos (show ¬ nI (tT β n p) = (1 : Int32) from ne 1 (by omega) h1), eN, Option.bind_some, if_pos (by rw [b2iF]; exact True.intro), if_neg (show ¬ nI (tT β n p) = (40 : Int32) from ne 40 (by omega) h3), if_neg (show ¬ nI (tT β n p) = (15 : Int32) from ne 15 (by omega) h7), if_neg (show ¬ nI (tT β n p) = (45 : Int32) from ne 45 (by omega) h4), if_neg (show ¬ nI (tT β n p) = (13 : Int32) from ne 13 (by omega) h5), if_pos (show ¬ nI (tT β n p) = (14 : Int32) from ne 14 (by omega) h6), show (1 : Int32) = nI 1 from rfl, e1]
    exact ⟨v2, rfl, e2, e3⟩
  · unfold mbeg
    rw [if_neg h1, if_neg h2, if_neg h3, if_neg h4, if_neg h5, if_neg h6, if_neg h7, if_neg (fun z => by rw [hA z.1] at z; exact absurd z.2 (by decide))]

/-! Tokens: the model's words. -/
theorem lq_bv (a : Nat) : (lq a).toBitVec = BitVec.ofNat 64 a := rfl
theorem sh8 : (((8 : Int32).toInt64 &&& 63).toBitVec.smod 64).toNat = 8 := by decide
theorem sh48 : (((48 : Int32).toInt64 &&& 63).toBitVec.smod 64).toNat = 48 := by decide
theorem lq_shl8 (a : Nat) : lq a <<< ((8 : Int32).toInt64 &&& 63) = lq (a * 256) := by
  apply Int64.toBitVec_inj.mp
  rw [Int64.toBitVec_shiftLeft, lq_bv, lq_bv]
  apply BitVec.eq_of_toNat_eq
  rw [BitVec.shiftLeft_eq', BitVec.toNat_shiftLeft, sh8, BitVec.toNat_ofNat, BitVec.toNat_ofNat, Nat.shiftLeft_eq, Nat.mod_mul_mod]
theorem lq_shr48 {a : Nat} (ha : a < 2 ^ 63) : lq a >>> ((48 : Int32).toInt64 &&& 63) = lq (a / 2 ^ 48) := by
  apply Int64.toBitVec_inj.mp
  rw [Int64.toBitVec_shiftRight, lq_bv, lq_bv]
  apply BitVec.eq_of_toNat_eq
  have hd : a / 2 ^ 48 < 2 ^ 63 := Nat.lt_of_le_of_lt (Nat.div_le_self _ _) ha
  show ((BitVec.ofNat 64 a).sshiftRight ((((48 : Int32).toInt64 &&& 63).toBitVec.smod 64).toNat)).toNat = _
  rw [sh48, BitVec.toNat_sshiftRight_of_msb_false, BitVec.toNat_ofNat, BitVec.toNat_ofNat, Nat.shiftRight_eq_div_pow, Nat.mod_eq_of_lt (by omega), Nat.mod_eq_of_lt (by omega)]
  rw [BitVec.msb_eq_false_iff_two_mul_lt, BitVec.toNat_ofNat]
  omega
theorem lq_or (a b : Nat) : lq a ||| lq b = lq (a ||| b) := by
  apply Int64.toBitVec_inj.mp
  rw [Int64.toBitVec_or, lq_bv, lq_bv, lq_bv, BitVec.ofNat_or]
theorem or_256 {a c : Nat} (h : c < 256) : a * 256 ||| c = a * 256 + c := by
  have := Nat.shiftLeft_add_eq_or_of_lt (b := c) (i := 8) (by omega) a
  rw [Nat.shiftLeft_eq, show (2 : Nat) ^ 8 = 256 from rfl] at this
  exact this.symm
theorem lq_inj {a b : Nat} (ha : a < 2 ^ 63) (hb : b < 2 ^ 63) : (lq a = lq b) = (a = b) := by
  apply propext
  constructor
  · intro h
    have := congrArg Int64.toInt h
    rw [lq_int ha, lq_int hb] at this
    omega
  · intro h; rw [h]
def stp (v c : Nat) : Nat := if v / 2 ^ 48 = 0 then v * 256 + c else 2 ^ 60
theorem stp_le {v c : Nat} (hc : c < 256) : stp v c ≤ 2 ^ 60 := by
  unfold stp
  by_cases h : v / 2 ^ 48 = 0
  · rw [if_pos h]; omega
  · rw [if_neg h]; exact Nat.le_refl _
theorem stp_s {v c : Nat} (h : v < 2 ^ 48) : stp v c = v * 256 + c := by unfold stp; rw [if_pos (by omega)]
theorem sl_si (ν : Nm) (q j q2 j2 : Nat) (v : Int32) (w : Int64) : sl (si ν q j v) q2 j2 w = si (sl ν q2 j2 w) q j v := rfl
theorem sl_sl (ν : Nm) (q j : Nat) (v w : Int64) : sl (sl ν q j v) q j w = sl ν q j w := by
  unfold sl va_up vp_updL
  refine Prod.ext rfl (Prod.ext ?_ rfl)
  funext q3 j3
  by_cases e : q3 = q
  · subst e
    by_cases e2 : j3 = j
    · simp [e2]
    · simp [e2]
  · simp [e]
theorem sl_id {ν : Nm} {q j : Nat} {v : Int64} (h : gl ν q j = v) : sl ν q j v = ν := by
  subst h
  unfold sl va_up vp_updL gl
  refine Prod.ext rfl (Prod.ext ?_ rfl)
  funext q3 j3
  by_cases e : q3 = q
  · subst e
    by_cases e2 : j3 = j
    · simp [e2]
    · simp [e2]
  · simp [e]
theorem gl_sl_s (ν : Nm) (q j : Nat) (v : Int64) : gl (sl ν q j v) q j = v := by rw [gl_sl, if_pos ⟨rfl, rfl⟩]
theorem ltr_256 : ∀ x, x < 257 → ltr x = true → 65 ≤ x ∧ x < 123 := by decide +kernel
theorem ltr_rng {x : Nat} (h : ltr x = true) : 65 ≤ x ∧ x < 123 := by
  unfold ltr at h
  simp only [Bool.or_eq_true, Bool.and_eq_true, decide_eq_true_eq] at h
  omega
theorem m_word168 {β : Nat → Nat} {n : Nat} : ∀ (d f p v : Nat) (ν : Nm), d < f → p ≤ n → n ≤ p + d → v ≤ 2 ^ 60 → TpM β n ν → gi ν 313 7 = nI p → gl ν 313 11 = lq v → Md_nextToken_168 f ν = some (si (sl ν 313 11 (lq ((wdL β n d p).foldl stp v))) 313 7 (nI (wdE β n d p))) := by
  intro d
  induction d with
  | zero =>
    intro f p v ν hf h1 h2 hv hT hp hv2
    obtain ⟨f, rfl⟩ := fsucc hf
    have hn := hT.1
    have e : byt β n p = 256 := by unfold byt; rw [if_neg (by omega)]
    show _ = some (si (sl ν 313 11 (lq v)) 313 7 (nI p))
    rw [sl_id hv2, si_id hp, Md_nextToken_168, hp, m_byteAt hT (by omega), Option.bind_some, e, (lt_all 256 (by omega)).2, Option.bind_some]
    rfl
  | succ d ih =>
    intro f p v ν hf h1 h2 hv hT hp hv2
    obtain ⟨f, rfl⟩ := fsucc hf
    have hn := hT.1
    have hb := byt_le (β := β) (n := n) (p := p) (fun i hi => (hT.2.2 i hi).1) hn
    rw [Md_nextToken_168, hp, m_byteAt hT (by omega), Option.bind_some, (lt_all (byt β n p) (by omega)).2, Option.bind_some, Option.bind_some, hv2]
    unfold wdL wdE
    by_cases q : ltr (byt β n p) = true
    · have hpn := ltr_lt q
      have hr := ltr_rng q
      have st : ∀ w, w ≤ 2 ^ 60 → Md_nextToken_218 (Md_nextToken_168 f) (lq w) ν = some (si (sl ν 313 11 (lq ((wdL β n d (p + 1)).foldl stp w))) 313 7 (nI (wdE β n d (p + 1)))) := by
        intro w hw
        unfold Md_nextToken_218
        rw [gi_sl, hp, show nI p + 1 = nI (p + 1) from nI_add p 1, ih f (p + 1) w (si (sl ν 313 11 (lq w)) 313 7 (nI (p + 1))) (by omega) (by omega) (by omega) hw (TpM_keep hT (by rw [gi_si_j _ _ _ (by omega), gi_sl]) (fun i => by rw [gi_si_q _ _ _ _ (by omega), gi_sl])) (gi_si_s _ _ _ _) (by rw [gl_si, gl_sl_s]), sl_si, sl_sl, si_si]
      rw [q, if_neg (by rw [b2iT]; exact id), if_pos rfl, if_pos rfl, List.foldl_cons, lq_shr48 (by omega), enY_n (by omega)]
      unfold stp
      by_cases z : v / 2 ^ 48 = 0
      · rw [if_pos (by rw [lg_eq, lq_eq0 (by omega)]; exact z), if_pos z, lq_shl8, nI_lq (by omega), lq_or, or_256 (by omega)]
        exact st _ (by omega)
      · rw [if_neg (by rw [lg_eq, lq_eq0 (by omega)]; exact z), if_neg z]
        exact st (2 ^ 60) (by omega)
    · rw [Bool.eq_false_iff.mpr q, if_pos (by rw [b2iF]; exact True.intro), if_neg (by simp), if_neg (by simp)]
      show _ = some (si (sl ν 313 11 (lq v)) 313 7 (nI p))
      rw [sl_id hv2, si_id hp]
/-! Packed letters tell the letters. -/
theorem pkl_lt : ∀ (m : Nat) (l : List Nat), l.length = m → m ≤ 7 → (∀ x ∈ l, 1 ≤ x ∧ x < 256) → l.foldl stp 0 < 256 ^ m := by
  intro m
  induction m with
  | zero =>
    intro l hl _ _
    rw [List.length_eq_zero_iff.mp hl]
    decide
  | succ m ih =>
    intro l hl hm hx
    rcases List.eq_nil_or_concat l with e | ⟨l2, c, e⟩
    · rw [e] at hl; cases hl
    · rw [List.concat_eq_append] at e
      subst e
      rw [List.length_append, List.length_singleton] at hl
      rw [List.foldl_append, List.foldl_cons, List.foldl_nil]
      have h1 := ih l2 (by omega) (by omega) (fun x h => hx x (List.mem_append_left _ h))
      have h2 := hx c (List.mem_append_right _ (List.mem_singleton.mpr rfl))
      have h3 : 256 ^ m ≤ 2 ^ 48 := by
        have : (256 : Nat) ^ m ≤ 256 ^ 6 := Nat.pow_le_pow_right (by omega) (by omega)
        omega
      rw [stp_s (by omega), Nat.pow_succ]
      omega
theorem pkl_inj : ∀ (m : Nat) (l1 l2 : List Nat), l2.length = m → m ≤ 6 → (∀ x ∈ l1, 1 ≤ x ∧ x < 256) → (∀ x ∈ l2, 1 ≤ x ∧ x < 256) → l1.foldl stp 0 = l2.foldl stp 0 → l1 = l2 := by
  intro m
  induction m with
  | zero =>
    intro l1 l2 hl _ h1 _ e
    rw [List.length_eq_zero_iff.mp hl] at e ⊢
    rcases List.eq_nil_or_concat l1 with e1 | ⟨l3, c, e1⟩
    · exact e1
    · rw [List.concat_eq_append] at e1
      subst e1
      have h2 := h1 c (List.mem_append_right _ (List.mem_singleton.mpr rfl))
      rw [List.foldl_append, List.foldl_cons, List.foldl_nil, List.foldl_nil] at e
      revert e
      generalize List.foldl stp 0 l3 = u
      unfold stp
      intro e
      split at e <;> omega
  | succ m ih =>
    intro l1 l2 hl hm h1 h2 e
    rcases List.eq_nil_or_concat l2 with e2 | ⟨l4, c2, e2⟩
    · rw [e2] at hl; cases hl
    rw [List.concat_eq_append] at e2
    subst e2
    rw [List.length_append, List.length_singleton] at hl
    have g4 : ∀ x ∈ l4, 1 ≤ x ∧ x < 256 := fun x h => h2 x (List.mem_append_left _ h)
    have b4 := pkl_lt m l4 (by omega) (by omega) g4
    have b5 : 256 ^ m ≤ 256 ^ 5 := Nat.pow_le_pow_right (by omega) (by omega)
    have c4 := h2 c2 (List.mem_append_right _ (List.mem_singleton.mpr rfl))
    rw [List.foldl_append (l := l4), List.foldl_cons, List.foldl_nil] at e
    have e4 : stp (List.foldl stp 0 l4) c2 = List.foldl stp 0 l4 * 256 + c2 := stp_s (by omega)
    rw [e4] at e
    rcases List.eq_nil_or_concat l1 with e1 | ⟨l3, c1, e1⟩
    · rw [e1, List.foldl_nil] at e; omega
    · rw [List.concat_eq_append] at e1
      subst e1
      have c3 := h1 c1 (List.mem_append_right _ (List.mem_singleton.mpr rfl))
      rw [List.foldl_append, List.foldl_cons, List.foldl_nil] at e
      have e3 : List.foldl stp 0 l3 = List.foldl stp 0 l4 ∧ c1 = c2 := by
        revert e
        generalize List.foldl stp 0 l3 = u
        unfold stp
        intro e
        by_cases z : u / 2 ^ 48 = 0
        · rw [if_pos z] at e; omega
        · rw [if_neg z] at e; omega
      rw [ih l3 l4 (by omega) (by omega) (fun x h => h1 x (List.mem_append_left _ h)) g4 e3.1, e3.2]
/-! A word's token, and its number in the model. -/
def wK (k : Nat) : List Nat := wlA (wtL.getD (k - 2) (0, 0, 0)).2.1 (wtL.getD (k - 2) (0, 0, 0)).2.2
def wI (k : Nat) : Int64 := lq ((wK k).foldl stp 0)
theorem wt_all : ∀ r ∈ wtL, 2 ≤ r.1 ∧ r.1 ≤ 26 ∧ wlA r.2.1 r.2.2 = wK r.1 := by decide +kernel
theorem wk_all : ∀ k, k < 27 → 2 ≤ k → (wK k).length ≤ 6 ∧ (∀ x ∈ wK k, 1 ≤ x ∧ x < 256) ∧ tW (wK k) = k ∧ (wK k).foldl stp 0 < 2 ^ 48 := by decide +kernel
theorem wF_find (m : Nat → Nat → Bool) : ∀ (l : List (Nat × Nat × Nat)), wF m l = 0 ∨ ∃ r ∈ l, wF m l = r.1 ∧ m r.2.1 r.2.2 = true := by
  intro l
  induction l with
  | nil => exact Or.inl rfl
  | cons r l ih =>
    unfold wF
    by_cases q : m r.2.1 r.2.2 = true
    · rw [if_pos q]; exact Or.inr ⟨r, List.mem_cons_self, rfl, q⟩
    · rw [if_neg q]
      rcases ih with h | ⟨r2, h1, h2, h3⟩
      · exact Or.inl h
      · exact Or.inr ⟨r2, List.mem_cons_of_mem _ h1, h2, h3⟩
theorem tW_rng (l : List Nat) : tW l = 0 ∨ (2 ≤ tW l ∧ tW l ≤ 26 ∧ l = wK (tW l)) := by
  rcases wF_find (lmA l) wtL with h | ⟨r, h1, h2, h3⟩
  · exact Or.inl h
  · obtain ⟨r1, r2, r3⟩ := wt_all r h1
    have e : tW l = r.1 := h2
    unfold lmA at h3
    have h4 := of_decide_eq_true h3
    exact Or.inr ⟨by omega, by omega, by rw [e, ← r3]; exact h4⟩
theorem tW_iff {l : List Nat} {k : Nat} (h2 : 2 ≤ k) (h26 : k ≤ 26) : tW l = k ↔ l = wK k := by
  constructor
  · intro e
    rcases tW_rng l with h | ⟨-, -, h⟩
    · omega
    · rw [e] at h; exact h
  · intro e; rw [e]; exact (wk_all k (by omega) h2).2.2.1
/-- packed letters that are a word -/
theorem pkl_iff {l : List Nat} (hl : ∀ x ∈ l, ltr x = true) {k : Nat} (h2 : 2 ≤ k) (h26 : k ≤ 26) : lq (l.foldl stp 0) = wI k ↔ tW l = k := by
  obtain ⟨w1, w2, w3, w4⟩ := wk_all k (by omega) h2
  have hb : l.foldl stp 0 ≤ 2 ^ 60 := by
    rcases List.eq_nil_or_concat l with e | ⟨l3, c, e⟩
    · rw [e]; decide
    · rw [List.concat_eq_append] at e
      subst e
      rw [List.foldl_append, List.foldl_cons, List.foldl_nil]
      have := ltr_rng (hl c (List.mem_append_right _ (List.mem_singleton.mpr rfl)))
      exact stp_le (by omega)
  unfold wI
  rw [lq_inj (by omega) (by omega), tW_iff h2 h26]
  constructor
  · intro e
    exact pkl_inj _ l (wK k) rfl w1 (fun x h => by have := ltr_rng (hl x h); omega) w2 e
  · intro e; rw [e]
theorem wI_inj : ∀ j, j < 27 → 2 ≤ j → ∀ k, k < 27 → 2 ≤ k → wI j = wI k → j = k := by decide +kernel
theorem w_lights : Md_w6 (108 : Int32) (105 : Int32) (103 : Int32) (104 : Int32) (116 : Int32) (115 : Int32) = some (wI 2) := by decide +kernel
theorem w_fails : Md_w5 (102 : Int32) (97 : Int32) (105 : Int32) (108 : Int32) (115 : Int32) = some (wI 3) := by decide +kernel
theorem w_cord : Md_w4 (99 : Int32) (111 : Int32) (114 : Int32) (100 : Int32) = some (wI 4) := by decide +kernel
theorem w_price : Md_w5 (112 : Int32) (114 : Int32) (105 : Int32) (99 : Int32) (101 : Int32) = some (wI 5) := by decide +kernel
theorem w_hands : Md_w5 (104 : Int32) (97 : Int32) (110 : Int32) (100 : Int32) (115 : Int32) = some (wI 6) := by decide +kernel
theorem w_left : Md_w4 (108 : Int32) (101 : Int32) (102 : Int32) (116 : Int32) = some (wI 7) := by decide +kernel
theorem w_right : Md_w5 (114 : Int32) (105 : Int32) (103 : Int32) (104 : Int32) (116 : Int32) = some (wI 8) := by decide +kernel
theorem w_snuff : Md_w5 (115 : Int32) (110 : Int32) (117 : Int32) (102 : Int32) (102 : Int32) = some (wI 9) := by decide +kernel
theorem w_renew : Md_w5 (114 : Int32) (101 : Int32) (110 : Int32) (101 : Int32) (119 : Int32) = some (wI 10) := by decide +kernel
theorem w_burn : Md_w4 (98 : Int32) (117 : Int32) (114 : Int32) (110 : Int32) = some (wI 11) := by decide +kernel
theorem w_minute : Md_w6 (109 : Int32) (105 : Int32) (110 : Int32) (117 : Int32) (116 : Int32) (101 : Int32) = some (wI 12) := by decide +kernel
theorem w_twos : Md_w4 (116 : Int32) (119 : Int32) (111 : Int32) (115 : Int32) = some (wI 13) := by decide +kernel
theorem w_out : Md_w3 (111 : Int32) (117 : Int32) (116 : Int32) = some (wI 14) := by decide +kernel
theorem w_if : Md_w2 (105 : Int32) (102 : Int32) = some (wI 15) := by decide +kernel
theorem w_then : Md_w4 (116 : Int32) (104 : Int32) (101 : Int32) (110 : Int32) = some (wI 16) := by decide +kernel
theorem w_else : Md_w4 (101 : Int32) (108 : Int32) (115 : Int32) (101 : Int32) = some (wI 17) := by decide +kernel
theorem w_end : Md_w3 (101 : Int32) (110 : Int32) (100 : Int32) = some (wI 18) := by decide +kernel
theorem w_or : Md_w2 (111 : Int32) (114 : Int32) = some (wI 19) := by decide +kernel
theorem w_and : Md_w3 (97 : Int32) (110 : Int32) (100 : Int32) = some (wI 20) := by decide +kernel
theorem w_not : Md_w3 (110 : Int32) (111 : Int32) (116 : Int32) = some (wI 21) := by decide +kernel
theorem w_time : Md_w4 (116 : Int32) (105 : Int32) (109 : Int32) (101 : Int32) = some (wI 22) := by decide +kernel
theorem w_rest : Md_w4 (114 : Int32) (101 : Int32) (115 : Int32) (116 : Int32) = some (wI 23) := by decide +kernel
theorem w_long : Md_w4 (108 : Int32) (111 : Int32) (110 : Int32) (103 : Int32) = some (wI 24) := by decide +kernel
theorem w_lit : Md_w3 (108 : Int32) (105 : Int32) (116 : Int32) = some (wI 25) := by decide +kernel
theorem w_side : Md_w4 (115 : Int32) (105 : Int32) (100 : Int32) (101 : Int32) = some (wI 26) := by decide +kernel

/-! spans -/
theorem fnd_rng {v : Nat} : ∀ (k m : Nat) (t r e : Nat → Nat), RI r e → TI m t → (∀ i, i < m → t i < t m) → m + k ≤ 4 → (fnd v k m t r e).isSome = true → 1 ≤ v ∧ v ≤ 15360 := by
  intro k
  induction k with
  | zero =>
    intro m t r e hr ht hs hm h
    have h' : ((hit v m t m 0).map (fun i => (i, ([] : List Nat)))).isSome = true := h
    rw [Option.isSome_map, hit_some] at h'
    obtain ⟨j, j1, j2, j3⟩ := h'
    have := hs j (by omega)
    have := ht.2
    omega
  | succ k ih =>
    intro m t r e hr ht hs hm h
    have h' : (fsc (fbr (fnd v k (m + 1)) m t r e) 81 0).isSome = true := h
    rw [fsc_some] at h'
    obtain ⟨y, y1, y2, y3⟩ := h'
    obtain ⟨z1, z2, z3⟩ := fbr_some.mp y3
    refine ih (m + 1) _ _ _ (RI_n hr z1) (TI_n ht (by_le hr z1)) (fun i hi => ?_) (by omega) z3
    rw [upn_s]
    rw [upn_n _ _ (show i ≠ m + 1 by omega)]
    have := ht.1 i (by omega)
    omega
theorem mkS_rng {a : Nat → Nat} (hw : WF a) {s v : Nat} (hs : s < 16) (h : mkS a s v) : 1 ≤ v ∧ v ≤ 15360 := by
  obtain ⟨n, n1, n2, n3⟩ := h
  exact fnd_rng n 0 zer (r0 a s) zer (RI_0 hw s hs) TI_0 (fun i hi => by omega) (by omega) n3
theorem gvB_rng {a : Nat → Nat} (hw : WF a) {s v : Nat} (hs : s < 16) (h : ¬ (1 ≤ v ∧ v ≤ 15360)) : gvB a s v = false := Bool.eq_false_iff.mpr (fun q => h (mkS_rng hw hs (gvB_t.mp q)))
/-- the x-th that holds, from i on -/
def sel (P : Nat → Bool) : Nat → Nat → Nat → Option Nat
  | 0, _, _ => none
  | k + 1, i, x => if P i = true then (if x = 0 then some i else sel P k (i + 1) (x - 1)) else sel P k (i + 1) x
theorem cnt_1 (P : Nat → Bool) (n : Nat) : cnt P (n + 1) = (if P 0 = true then 1 else 0) + cnt (fun i => P (1 + i)) n := by
  rw [Nat.add_comm, cnt_app]
  show (0 + (if P 0 = true then 1 else 0)) + _ = _
  rw [Nat.zero_add]
theorem cnt_f1 (P : Nat → Bool) (i n : Nat) : cnt (fun j => P (i + j)) (n + 1) = (if P i = true then 1 else 0) + cnt (fun j => P (i + 1 + j)) n := by
  rw [cnt_1]
  congr 1
  apply cnt_cg
  intro k _
  show P (i + (1 + k)) = P (i + 1 + k)
  rw [Nat.add_assoc]
theorem sel_app (P : Nat → Bool) (n : Nat) : ∀ (m i x : Nat), sel P (m + n) i x = if x < cnt (fun j => P (i + j)) m then sel P m i x else sel P n (i + m) (x - cnt (fun j => P (i + j)) m) := by
  intro m
  induction m with
  | zero => intro i x; rw [Nat.zero_add]; show _ = if x < 0 then _ else sel P n i (x - 0); rw [if_neg (by omega), Nat.sub_zero]
  | succ m ih =>
    intro i x
    rw [cnt_f1, show m + 1 + n = (m + n) + 1 by omega]
    show (if P i = true then (if x = 0 then some i else sel P (m + n) (i + 1) (x - 1)) else sel P (m + n) (i + 1) x) = if _ then (if P i = true then (if x = 0 then some i else sel P m (i + 1) (x - 1)) else sel P m (i + 1) x) else _
    rw [ih (i + 1) (x - 1), ih (i + 1) x, show i + 1 + m = i + (m + 1) by omega]
    by_cases q : P i = true
    · simp only [if_pos q]
      by_cases z : x = 0
      · rw [if_pos z, if_pos (by omega), if_pos z]
      · rw [if_neg z, if_neg z]
        by_cases w : x - 1 < cnt (fun j => P (i + 1 + j)) m
        · rw [if_pos w, if_pos (by omega)]
        · rw [if_neg w, if_neg (by omega)]
          congr 1
          omega
    · simp only [if_neg q, Nat.zero_add]
theorem sel_none (P : Nat → Bool) : ∀ (n i x : Nat), sel P n i x = none ↔ cnt (fun j => P (i + j)) n ≤ x := by
  intro n
  induction n with
  | zero => intro i x; exact ⟨fun _ => Nat.zero_le _, fun _ => rfl⟩
  | succ n ih =>
    intro i x
    rw [cnt_f1]
    unfold sel
    by_cases q : P i = true
    · simp only [if_pos q]
      by_cases z : x = 0
      · rw [if_pos z]; constructor
        · intro h; cases h
        · intro h; omega
      · rw [if_neg z, ih]; omega
    · simp only [if_neg q, Nat.zero_add]
      exact ih (i + 1) x
theorem sel_rng (P : Nat → Bool) : ∀ (n i x p : Nat), sel P n i x = some p → i ≤ p ∧ p < i + n := by
  intro n
  induction n with
  | zero => intro i x p h; cases h
  | succ n ih =>
    intro i x p h
    unfold sel at h
    by_cases q : P i = true
    · rw [if_pos q] at h
      by_cases z : x = 0
      · rw [if_pos z] at h
        have := Option.some.inj h
        omega
      · rw [if_neg z] at h
        have := ih (i + 1) _ p h
        omega
    · rw [if_neg q] at h
      have := ih (i + 1) _ p h
      omega
/-- what is learned of a set -/
def LN (a : Nat → Nat) (s : Nat) (ν : Nm) : Prop := ∀ v, v < 15424 → (MB s v ν ↔ mkS a s v)
theorem LN_mk {a : Nat → Nat} {s : Nat} {ν : Nm} (h : LN a s ν) (hs : s < 16) {v : Nat} (hv : v < 15424) : Rw_marked ν (nI s) (nI v) = some (gvB a s v) := by
  obtain ⟨b, q1, q2⟩ := c_marked hs hv ν
  rw [q1]
  congr 1
  rw [Bool.eq_iff_iff, q2, h v hv, gvB_t]
theorem LN_cnt {a : Nat → Nat} {s : Nat} {ν : Nm} (h : LN a s ν) {k : Nat} (hk : k < 241) : Lo_bitCountJ (gl ν 277 (s * 241 + k)) = some (nI (cnt (fun j => gvB a s (64 * k + j)) 64)) := by
  rw [bc64]
  congr 2
  apply cnt_cg
  intro j hj
  have := h (64 * k + j) (by omega)
  unfold MB at this
  rw [show (64 * k + j) / 64 = k by omega, show (64 * k + j) % 64 = j by omega] at this
  rw [Bool.eq_iff_iff, this, gvB_t]
theorem c_count9 {a : Nat → Nat} {s : Nat} {ν : Nm} (h : LN a s ν) (hs : s < 16) : ∀ (d f k c : Nat), k + d = 241 → d < f → Rw_countSpans_9 f (nI s) (nI c) (nI k) ν = some (nI (c + cnt (fun j => gvB a s (64 * k + j)) (64 * d)), ν) := by
  intro d
  induction d with
  | zero =>
    intro f k c hk hf
    obtain ⟨f, rfl⟩ := fsucc hf
    rw [Rw_countSpans_9, if_pos (by rw [show (241 : Int32) = nI 241 from rfl, nI_le' (by omega) (by omega)]; omega)]
    rfl
  | succ d ih =>
    intro f k c hk hf
    obtain ⟨f, rfl⟩ := fsucc hf
    rw [Rw_countSpans_9, if_neg (by rw [show (241 : Int32) = nI 241 from rfl, nI_le' (by omega) (by omega)]; omega), show nI s * 241 = nI (s * 241) from nI_mul s 241, nI_add, inb_nI (by omega), nI_clamp (by omega), if_pos (by simp; omega), LN_cnt h (by omega), Option.bind_some, nI_add, show nI k + 1 = nI (k + 1) from nI_add k 1, ih f (k + 1) _ (by omega) (by omega), show 64 * (d + 1) = 64 + 64 * d by omega, cnt_app, Nat.add_assoc]
    congr 4
    apply congrArg
    apply cnt_cg
    intro j _
    show gvB a s (64 * (k + 1) + j) = gvB a s (64 * k + (64 + j))
    congr 1
    omega
theorem c_word9 {a : Nat → Nat} {s : Nat} {ν : Nm} (h : LN a s ν) (hs : s < 16) {w : Nat} (hw : w < 241) : ∀ (d f i x : Nat), i + d = 64 * w + 64 → 64 * w ≤ i → d < f → x < 2 ^ 31 → Rw_spanInWord_9 ν f (nI s) (nI w) (nI x) (nI i) = some (match sel (gvB a s) d i x with | some p => nI p | none => -2) := by
  intro d
  induction d with
  | zero =>
    intro f i x hi h0 hf hx
    obtain ⟨f, rfl⟩ := fsucc hf
    rw [Rw_spanInWord_9, show nI w * 64 = nI (w * 64) from nI_mul w 64, show nI (w * 64) + 64 = nI (w * 64 + 64) from nI_add (w * 64) 64, if_pos (by rw [nI_le' (by omega) (by omega)]; omega)]
    rfl
  | succ d ih =>
    intro f i x hi h0 hf hx
    obtain ⟨f, rfl⟩ := fsucc hf
    rw [Rw_spanInWord_9, show nI w * 64 = nI (w * 64) from nI_mul w 64, show nI (w * 64) + 64 = nI (w * 64 + 64) from nI_add (w * 64) 64, if_neg (by rw [nI_le' (by omega) (by omega)]; omega), LN_mk h hs (by omega), Option.bind_some]
    unfold Rw_spanInWord_42 sel
    rw [show nI i + 1 = nI (i + 1) from nI_add i 1]
    cases q : gvB a s i with
    | false =>
      rw [if_pos (by rw [b2iF]; exact True.intro), if_neg (by simp)]
      exact ih f (i + 1) x (by omega) (by omega) (by omega) hx
    | true =>
      rw [if_neg (by rw [b2iT]; exact id), if_pos rfl]
      by_cases z : x = 0
      · rw [if_neg (by rw [z]; exact fun w => w rfl), if_pos z]
      · rw [if_pos (by rw [show (0 : Int32) = nI 0 from rfl, nI_eq' (by omega) (by omega)]; exact z), if_neg z, ← Int32.sub_eq_add_neg, show nI x - 1 = nI (x - 1) from nI_sub (b := 1) (by omega)]
        exact ih f (i + 1) (x - 1) (by omega) (by omega) (by omega) (by omega)
theorem c_num17 {a : Nat → Nat} {s : Nat} {ν : Nm} (h : LN a s ν) (hs : s < 16) : ∀ (d f k x : Nat), k + d = 241 → d < f → x < 2 ^ 31 → Rw_spanNumber_17 f (nI s) (nI x) (nI k) ν = some (match sel (gvB a s) (64 * d) (64 * k) x with | some p => nI p | none => -2, ν) := by
  intro d
  induction d with
  | zero =>
    intro f k x hk hf hx
    obtain ⟨f, rfl⟩ := fsucc hf
    rw [Rw_spanNumber_17, if_pos (by rw [show (241 : Int32) = nI 241 from rfl, nI_le' (by omega) (by omega)]; omega)]
    rfl
  | succ d ih =>
    intro f k x hk hf hx
    obtain ⟨f, rfl⟩ := fsucc hf
    have hc := cnt_le (fun j => gvB a s (64 * k + j)) 64
    rw [Rw_spanNumber_17, if_neg (by rw [show (241 : Int32) = nI 241 from rfl, nI_le' (by omega) (by omega)]; omega), show nI s * 241 = nI (s * 241) from nI_mul s 241, nI_add, inb_nI (by omega), nI_clamp (by omega), if_pos (by simp; omega), LN_cnt h (by omega), Option.bind_some, show 64 * (d + 1) = 64 + 64 * d by omega, sel_app]
    by_cases z : x < cnt (fun j => gvB a s (64 * k + j)) 64
    · rw [if_neg (by rw [nI_le' (by omega) (by omega)]; omega), if_pos z]
      unfold Rw_spanInWord
      rw [show nI k * 64 = nI (64 * k) by rw [Nat.mul_comm]; exact nI_mul k 64, c_word9 h hs (by omega) 64 FU (64 * k) x (by omega) (by omega) (by unfold FU; omega) hx, Option.bind_some]
    · rw [if_pos (by rw [nI_le' (by omega) (by omega)]; omega), if_neg z, nI_sub (by omega), show nI k + 1 = nI (k + 1) from nI_add k 1, ih f (k + 1) _ (by omega) (by omega) (by omega), show 64 * (k + 1) = 64 * k + 64 by omega]
/-- all spans lie below 15361 -/
theorem cnt_hi {a : Nat → Nat} (hw : WF a) {s : Nat} (hs : s < 16) : cnt (gvB a s) 15424 = cnt (gvB a s) 15361 := by
  have := cnt_app (gvB a s) 15361 63
  rw [this, cnt_cg (Q := fun _ => false) 63 (fun k hk => gvB_rng hw hs (by omega)), cnt_f, Nat.add_zero]
theorem sel_lo {a : Nat → Nat} (hw : WF a) {s : Nat} (hs : s < 16) (x : Nat) : sel (gvB a s) 15424 0 x = sel (gvB a s) 15360 1 x := by
  have e : sel (gvB a s) 15424 0 x = sel (gvB a s) 15423 1 x := by
    show (if gvB a s 0 = true then _ else sel (gvB a s) 15423 (0 + 1) x) = _
    rw [gvB_rng hw hs (by omega), if_neg (by simp)]
  rw [e]
  have q := sel_app (gvB a s) 63 15360 1 x
  rw [show 15360 + 63 = 15423 from rfl] at q
  rw [q]
  by_cases z : x < cnt (fun j => gvB a s (1 + j)) 15360
  · rw [if_pos z]
  · rw [if_neg z]
    have n1 := (sel_none (gvB a s) 15360 1 x).mpr (by omega)
    rw [n1, sel_none, cnt_cg (Q := fun _ => false) 63 (fun k hk => gvB_rng hw hs (by omega)), cnt_f]
    omega
theorem m_spans52 {a : Nat → Nat} {ν0 : Nm} (hw : WF a) {s : Nat} (h1 : 1 ≤ s) (h2 : s < 2 ^ a 0) : ∀ (n f i x p : Nat) (ν : Nm), i + n = 15361 → n < f → x < 2 ^ 31 → MR a ν0 ν → sel (gvB a s) n i x = some p → ∃ ν2, Md_spans_52 f (nI s) (nI x) (nI i) ν = some (nI p, ν2) ∧ MR a ν0 ν2 := by
  intro n
  induction n with
  | zero => intro f i x p ν _ _ _ _ h; cases h
  | succ n ih =>
    intro f i x p ν hi hf hx h hs
    obtain ⟨f, rfl⟩ := fsucc hf
    obtain ⟨ν1, p1, p2, -⟩ := m_given h hw h1 h2 (v := i) (by omega)
    obtain ⟨ν2, q1, q2, -⟩ := m_given p2 hw h1 h2 (v := i) (by omega)
    unfold sel at hs
    rw [Md_spans_52, p1, Option.bind_some]
    simp only []
    unfold Md_spans_66 Md_spans_82
    rw [q1, Option.bind_some]
    simp only []
    rw [show nI i + 1 = nI (i + 1) from nI_add i 1]
    cases q : gvB a s i with
    | false =>
      rw [q, if_neg (by simp)] at hs
      rw [if_pos (by rw [b2iF]; exact True.intro), if_pos (by rw [b2iF]; exact True.intro), show nI x - 0 = nI x from nI_sub (b := 0) (by omega)]
      exact ih f (i + 1) x p ν2 (by omega) (by omega) hx q2 hs
    | true =>
      rw [q, if_pos rfl] at hs
      rw [if_neg (by rw [b2iT]; exact id)]
      by_cases z : x = 0
      · rw [if_pos z] at hs
        have := Option.some.inj hs
        subst this
        subst z
        rw [if_pos (by decide)]
        exact ⟨ν1, rfl, p2⟩
      · rw [if_neg z] at hs
        rw [if_neg (by rw [show (0 : Int32) = nI 0 from rfl, nI_le' (by omega) (by omega)]; omega), if_neg (by rw [b2iT]; exact id), show nI x - 1 = nI (x - 1) from nI_sub (b := 1) (by omega)]
        exact ih f (i + 1) (x - 1) p ν2 (by omega) (by omega) (by omega) q2 hs
theorem st_spans {a b : Nat → Nat} {ν : Nm} (h : Inv a b tau ν) (x y : Int32) : Step tau (Fm_spans x y) (Md_spans x y) ν := by
  have hw := h.1
  have hc0 := C1_0 h
  have hm0 := M1_0 h hc0
  have hb := wb hw
  have p4 : 2 ^ a 0 ≤ 2 ^ 4 := Nat.pow_le_pow_right (by omega) hb.1
  rcases set_cases x (a 0) with ⟨s, h1, h2, rfl⟩ | hx
  · have hs : s < 16 := by omega
    -- the model, after what the class has changed
    have md : ∀ ν1, CQ a ν ν1 → ∃ ν2, Md_layGives (nI s) ν1 = some ν2 ∧ MR a ν1 ν2 ∧ gi ν2 328 s = nI (cnt (gvB a s) 15361) := by
      intro ν1 hq
      obtain ⟨ν2, q1, q2, ⟨P, r1, r2⟩, -⟩ := m_layG (MR_0 h hq) hw h1 hs
      refine ⟨ν2, q1, q2, ?_⟩
      have ep : cnt P 15361 = cnt (gvB a s) 15361 := cnt_cg _ (fun k hk => by rw [Bool.eq_iff_iff, (r1 k hk).2, gvB_t, Nat.mod_eq_of_lt h2])
      rw [r2, ep]
    have hcn := cnt15 (gvB a s)
    have c0 : Fm_spans (nI s) y ν = if ¬ y = (-1 : Int32) then (Rw_spanNumber (nI s) y ν).bind fun v4 => some (v4.1, v4.2) else (Rw_countSpans (nI s) ν).bind fun v5 => some (v5.1, v5.2) := by
      unfold Fm_spans
      rw [c_set_t hc0 hw h1 h2, Option.bind_some, if_pos (by rw [b2iT]; exact id)]
    have m0 : ∀ ν1 ν2, CQ a ν ν1 → Md_layGives (nI s) ν1 = some ν2 → gi ν2 328 s = nI (cnt (gvB a s) 15361) → Md_spans (nI s) y ν1 = if ¬ y = (-1 : Int32) then (Md_isIn y 0 (nI (cnt (gvB a s) 15361) - 1)).bind fun v6 => if ¬ (b2i v6) = 0 then Md_spans_52 FU (nI s) y 1 ν2 else some (-2, ν2) else some (nI (cnt (gvB a s) 15361), ν2) := by
      intro ν1 ν2 hq e1 e2
      unfold Md_spans
      rw [m_set_t (MR_M (MR_0 h hq)) hw h1 h2, Option.bind_some, if_pos (by rw [b2iT]; exact id), e1, Option.bind_some, inb_nI (by omega), nI_clamp (by omega)]
      simp only [dT hs, if_true]
      rw [e2]
    obtain ⟨ν1, l1, l2, l3⟩ := c_learn (CQ_0 h) hw h1 h2
    obtain ⟨ν2, q1, q2, q3⟩ := md ν1 l2
    by_cases e : y = -1
    · subst e
      have cc := c_count9 (a := a) l3 hs 241 FU 0 0 (by omega) (by unfold FU; omega)
      refine ⟨nI (cnt (gvB a s) 15361), ν1, ν2, a, b, ?_, ?_, Inv_Q h l2 q2⟩
      · rw [c0, if_neg (fun z => z rfl)]
        unfold Rw_countSpans
        rw [l1, Option.bind_some]
        have cc' : Rw_countSpans_9 FU (nI s) 0 0 ν1 = _ := cc
        have ep : cnt (fun j => gvB a s (64 * 0 + j)) (64 * 241) = cnt (gvB a s) 15424 := cnt_cg _ (fun k hk => by show gvB a s (64 * 0 + k) = gvB a s k; rw [show 64 * 0 + k = k by omega])
        rw [cc', Option.bind_some, Nat.zero_add, ep, cnt_hi hw hs]
      · rw [m0 ν1 ν2 l2 q1 q3, if_neg (fun z => z rfl)]
    · rcases arg_cases y with q | ⟨j, j1, rfl⟩
      · obtain ⟨ν3, r1, r2, r3⟩ := md ν (CQ_0 h)
        refine ⟨-2, ν, ν3, a, b, ?_, ?_, Inv_Q h (CQ_0 h) r2⟩
        · rw [c0, if_pos e]
          unfold Rw_spanNumber
          rw [if_neg (by rw [Int32.not_le]; exact q)]
          rfl
        · rw [m0 ν ν3 (CQ_0 h) r1 r3, if_pos e]
          have := isIn0_f (x := y) (n := cnt (gvB a s) 15361) (fun c hc z => by rw [z] at q; exact nI_pos (show c < 2 ^ 31 by omega) q) (by omega)
          have this' : Md_isIn y 0 (nI (cnt (gvB a s) 15361) - 1) = some false := this
          rw [this']; rfl
      · have cn := c_num17 (a := a) l3 hs 241 FU 0 j (by omega) (by unfold FU; omega) j1
        have cn' : Rw_spanNumber_17 FU (nI s) (nI j) 0 ν1 = some (match sel (gvB a s) 15360 1 j with | some p => nI p | none => -2, ν1) := by
          have : Rw_spanNumber_17 FU (nI s) (nI j) 0 ν1 = some (match sel (gvB a s) 15424 0 j with | some p => nI p | none => -2, ν1) := cn
          rw [sel_lo hw hs] at this
          exact this
        have cF : Fm_spans (nI s) (nI j) ν = some (match sel (gvB a s) 15360 1 j with | some p => nI p | none => -2, ν1) := by
          rw [c0, if_pos e]
          unfold Rw_spanNumber
          rw [if_pos (by rw [show (0 : Int32) = nI 0 from rfl, nI_le' (by omega) j1]; omega), l1, Option.bind_some, cn']
          rfl
        have ec : cnt (gvB a s) 15361 = cnt (fun j => gvB a s (1 + j)) 15360 := by
          rw [show (15361 : Nat) = 15360 + 1 from rfl, cnt_1, gvB_rng hw hs (by omega), if_neg (by simp), Nat.zero_add]
        by_cases z : j < cnt (gvB a s) 15361
        · cases hsel : sel (gvB a s) 15360 1 j with
          | none =>
            rw [sel_none] at hsel
            omega
          | some p =>
            obtain ⟨ν3, r1, r2⟩ := m_spans52 hw h1 h2 15360 FU 1 j p ν2 (by omega) (by unfold FU; omega) j1 q2 hsel
            refine ⟨nI p, ν1, ν3, a, b, by rw [cF, hsel], ?_, Inv_Q h l2 r2⟩
            rw [m0 ν1 ν2 l2 q1 q3, if_pos e]
            have : Md_isIn (nI j) 0 (nI (cnt (gvB a s) 15361) - 1) = some true := isIn0_t z (by omega)
            rw [this, Option.bind_some, if_pos (by rw [b2iT]; exact id)]
            exact r1
        · have hsel : sel (gvB a s) 15360 1 j = none := by rw [sel_none]; omega
          refine ⟨-2, ν1, ν2, a, b, by rw [cF, hsel], ?_, Inv_Q h l2 q2⟩
          rw [m0 ν1 ν2 l2 q1 q3, if_pos e]
          have : Md_isIn (nI j) 0 (nI (cnt (gvB a s) 15361) - 1) = some false := isIn0_f (fun c hc w => by rw [nI_eq' j1 (by omega)] at w; omega) (by omega)
          rw [this]; rfl
  · refine Step_no h (-2) ?_ ?_
    · unfold Fm_spans; rw [c_set_f hc0 hw hx]; rfl
    · unfold Md_spans; rw [m_set_f hm0 hw hx]; rfl

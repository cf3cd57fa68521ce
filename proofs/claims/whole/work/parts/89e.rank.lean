/-! Bundles: the class's rank, and the least. -/
theorem lq_add2 (a b : Nat) : lq a + lq b = lq (a + b) := by unfold lq; rw [Int64.ofNat_add]
def unS (S : Nat → Nat) : Nat := ((S 0 ||| S 1) ||| S 2) ||| S 3
def rkS (a : Nat → Nat) (S : Nat → Nat) : Nat := ((((coA a (unS S) * 16 + unS S) * 16 + S 0) * 16 + S 1) * 16 + S 2) * 16 + S 3
theorem or16 {x y : Nat} (hx : x < 16) (hy : y < 16) : x ||| y < 16 := by
  have h : (16 : Nat) = 2 ^ 4 := rfl
  rw [h]
  exact Nat.or_lt_two_pow (by omega) (by omega)
theorem unS_16 {S : Nat → Nat} (hS : ∀ p, S p < 16) : unS S < 16 := or16 (or16 (or16 (hS 0) (hS 1)) (hS 2)) (hS 3)
theorem pc_4 : ∀ s, s < 16 → pc16 s ≤ 4 := by decide +kernel
theorem coA_le {a : Nat → Nat} (hw : WF a) {s : Nat} (hs : s < 16) : coA a s ≤ 1984 := by
  have h1 := prA_le hw s
  have h2 := pc_4 s hs
  unfold coA
  omega
theorem rkS_le {a : Nat → Nat} (hw : WF a) {S : Nat → Nat} (hS : ∀ p, S p < 16) : rkS a S < 2 ^ 31 := by
  have h1 := coA_le hw (unS_16 hS)
  have h2 := unS_16 hS
  have h3 := hS 0
  have h4 := hS 1
  have h5 := hS 2
  have h6 := hS 3
  unfold rkS
  omega
theorem c_rank {a : Nat → Nat} {ν0 ν : Nm} (h : C1 a ν0 ν) (hw : WF a) {S : Nat → Nat} (hS : ∀ p, S p < 16) (hP : ∀ p, p < 4 → gi ν 284 p = nI (S p)) : Bu_rank ν 1 = some (lq (rkS a S)) := by
  have hu := unS_16 hS
  have hc := coA_le hw hu
  have hp := prA_le hw (unS S)
  have h4 := pc_4 _ hu
  have eu : (((gi ν 284 0) ||| (gi ν 284 1)) ||| (gi ν 284 2)) ||| (gi ν 284 3) = nI (unS S) := by
    rw [hP 0 (by omega), hP 1 (by omega), hP 2 (by omega), hP 3 (by omega), nI_or, nI_or, nI_or]; rfl
  unfold Bu_rank
  rw [eu, c_price h hu, Option.bind_some, bc16w (by omega), Option.bind_some, show nI (prA a (unS S)) * 5 = nI (prA a (unS S) * 5) from nI_mul _ 5, nI_add, nI_lq (by omega), nI_lq (by omega), show (16 : Int64) = lq 16 from rfl, lq_mul, lq_add2]
  have st : ∀ (f i x : Nat), i < 4 → Bu_rank_54 ν (f + 1) (lq x) (nI i) = Bu_rank_54 ν f (lq (x * 16 + S i)) (nI (i + 1)) := by
    intro f i x hi
    have := hS i
    rw [Bu_rank_54, if_neg (by rw [show (4 : Int32) = nI 4 from rfl, nI_le' (by omega) (by omega)]; omega), inb_nI (by omega), nI_clamp (by omega), if_pos (by simp; omega), hP i hi, nI_lq (by omega), show (16 : Int64) = lq 16 from rfl, lq_mul, lq_add2, show nI i + 1 = nI (i + 1) from nI_add i 1]
  have e : ∃ f, FU = f + 5 := ⟨FU - 5, by unfold FU; omega⟩
  obtain ⟨f, hf⟩ := e
  show Bu_rank_54 ν FU _ (nI 0) = _
  rw [hf, st _ 0 _ (by omega), st _ 1 _ (by omega), st _ 2 _ (by omega), st _ 3 _ (by omega), Bu_rank_54, if_pos (by decide)]
  rfl
/-- the least of what is valid -/
def mo2 (o : Option Nat) (r : Nat) : Option Nat := match o with
  | none => some r
  | some x => some (min x r)
def mnv (ok : Nat → Bool) (R : Nat → Nat) : Nat → Option Nat
  | 0 => none
  | y + 1 => if ok y = true then mo2 (mnv ok R y) (R y) else mnv ok R y
def enL (o : Option Nat) : Int64 := match o with
  | none => -1
  | some r => lq r
theorem mnv_lt {ok : Nat → Bool} {R : Nat → Nat} {B : Nat} (hR : ∀ y, R y < B) : ∀ (n r : Nat), mnv ok R n = some r → r < B := by
  intro n
  induction n with
  | zero => intro r h; cases h
  | succ n ih =>
    intro r h
    unfold mnv at h
    by_cases q : ok n = true
    · rw [if_pos q] at h
      cases e : mnv ok R n with
      | none => rw [e] at h; have := Option.some.inj h; have := hR n; omega
      | some x => rw [e] at h; have := Option.some.inj h; have := hR n; have := ih x e; omega
    · rw [if_neg q] at h; exact ih r h
theorem lmin_lq {x y : Nat} (hx : x < 2 ^ 63) (hy : y < 2 ^ 63) : lmin (lq x) (lq y) = lq (min x y) := by
  unfold lmin
  by_cases q : y < x
  · rw [if_pos (by rw [Int64.lt_iff_toInt_lt, lq_int hx, lq_int hy]; omega)]; congr 1; omega
  · rw [if_neg (by rw [Int64.lt_iff_toInt_lt, lq_int hx, lq_int hy]; omega)]; congr 1; omega
theorem lq_m1 {x : Nat} (hx : x < 2 ^ 63) : ¬ lq x = -1 := by
  intro h
  have := congrArg Int64.toInt h
  rw [lq_int hx] at this
  have e : (-1 : Int64).toInt = -1 := rfl
  omega
theorem CQ_bu {a : Nat → Nat} {ν0 ν ν2 : Nm} (hw : WF a) (h : CQ a ν0 ν) (k : ∀ q j, ¬ (282 ≤ q ∧ q ≤ 284) → gi ν2 q j = gi ν q j) (kl : ∀ q j, q ≠ 282 → gl ν2 q j = gl ν q j) : CQ a ν0 ν2 :=
  ⟨CX_keep h.1 (fun q j _ _ => k q j (by omega)), RC_keep h.2.1 (wb hw).1 ⟨Nat.le_refl _, fun _ _ _ => rfl⟩ (fun q j hq => k q j (by unfold rcq at hq; omega)) (fun j => kl _ _ (by omega)), ⟨fun q j hq => by rw [k q j (by unfold fcQ at hq; omega)]; exact h.2.2.1 q j hq, fun q j hq => by rw [kl q j (by unfold fcQ at hq; omega)]; exact h.2.2.2 q j hq⟩⟩
def okC (a : Nat → Nat) (y : Nat) : Bool := alK a (shF (a 5 + 1) y) (a 5) 0
def rkC (a : Nat → Nat) (y : Nat) : Nat := rkS a (shF (a 5 + 1) y)
theorem c_find35 {a : Nat → Nat} {ν0 : Nm} (hw : WF a) {N : Nat} (hN : N ≤ 625) : ∀ (k f y : Nat) (ν : Nm), y + k = N → k < f → CQ a ν0 ν → gi ν 282 2 = nI (a 5) → GV a ν → gl ν 282 3 = enL (mnv (okC a) (rkC a) y) → ∃ ν2, Bu_find_35 f 1 (nI N) (nI y) ν = some ((mnv (okC a) (rkC a) N).isSome, ν2) ∧ CQ a ν0 ν2 ∧ gl ν2 282 3 = enL (mnv (okC a) (rkC a) N) := by
  have hb := wb hw
  have hR : ∀ y, rkC a y < 2 ^ 31 := fun y => rkS_le hw (fun p => shF_16 _ _ _)
  intro k
  induction k with
  | zero =>
    intro f y ν hy hf h h2 hG hL
    obtain ⟨f, rfl⟩ := fsucc hf
    obtain rfl : y = N := by omega
    refine ⟨ν, ?_, h, hL⟩
    rw [Bu_find_35, if_pos (by rw [nI_le' (by omega) (by omega)]; omega), hL]
    simp only [lg_eq]
    cases e : mnv (okC a) (rkC a) y with
    | none => rfl
    | some r =>
      have := mnv_lt hR y r e
      rw [if_neg (show ¬ enL (some r) = -1 from lq_m1 (show r < 2 ^ 63 by omega))]; rfl
  | succ k ih =>
    intro f y ν hy hf h h2 hG hL
    obtain ⟨f, rfl⟩ := fsucc hf
    obtain ⟨ν1, p1, p2, p3, p4⟩ := c_shareOut (b := a 5 + 1) (y := y) (by omega) (by omega) (by omega) (ν := ν) (by rw [h2]; rfl)
    have g1 : Bu_givesAll ν1 = some (okC a y) := c_all2 hw (S := shF (a 5 + 1) y) (fun p => shF_16 _ _ _) (by rw [p3 _ _ (by omega)]; exact h2) (fun i hi => by rw [p3 _ _ (by omega)]; exact hG i hi) p2 (a 5) FU 0 (by omega) (by unfold FU; omega)
    have hC1 : CQ a ν0 ν1 := CQ_bu hw h (fun q j hq => p3 q j (by omega)) (fun q j _ => p4 q j)
    have g2 : Bu_rank ν1 1 = some (lq (rkC a y)) := c_rank (CQ_C hC1) hw (fun p => shF_16 _ _ _) p2
    rw [Bu_find_35, if_neg (by rw [nI_le' (by omega) (by omega)]; omega), p1, Option.bind_some, g1, Option.bind_some, g2, Option.bind_some]
    unfold Bu_find_87 Bu_find_90
    rw [show nI y + 1 = nI (y + 1) from nI_add y 1, p4, hL]
    simp only [lg_eq]
    have en : mnv (okC a) (rkC a) (y + 1) = if okC a y = true then mo2 (mnv (okC a) (rkC a) y) (rkC a y) else mnv (okC a) (rkC a) y := rfl
    have hRy := hR y
    have go : ∀ x : Int64, x = enL (mnv (okC a) (rkC a) (y + 1)) → ∃ ν2, Bu_find_35 f 1 (nI N) (nI (y + 1)) (sl ν1 282 3 x) = some ((mnv (okC a) (rkC a) N).isSome, ν2) ∧ CQ a ν0 ν2 ∧ gl ν2 282 3 = enL (mnv (okC a) (rkC a) N) := fun x hx => ih f (y + 1) (sl ν1 282 3 x) (by omega) (by omega) (CQ_bu hw hC1 (fun q j _ => gi_sl _ _ _ _ _ _) (fun q j hq => by rw [gl_sl, if_neg (fun z => hq z.1)])) (by rw [gi_sl, p3 _ _ (by omega)]; exact h2) (fun i hi => by rw [gi_sl, p3 _ _ (by omega)]; exact hG i hi) (by rw [gl_sl, if_pos ⟨rfl, rfl⟩]; exact hx)
    cases q : okC a y with
    | false =>
      rw [q, if_neg (by simp)] at en
      rw [if_pos (by rw [b2iF]; exact True.intro)]
      exact ih f (y + 1) ν1 (by omega) (by omega) hC1 (by rw [p3 _ _ (by omega)]; exact h2) (fun i hi => by rw [p3 _ _ (by omega)]; exact hG i hi) (by rw [p4, hL, en])
    | true =>
      rw [q, if_pos rfl] at en
      rw [if_neg (by rw [b2iT]; exact id)]
      cases e : mnv (okC a) (rkC a) y with
      | none =>
        rw [e] at en
        rw [if_neg (by intro z; exact z rfl)]
        exact go _ (by rw [en]; rfl)
      | some r =>
        have hr := mnv_lt hR y r e
        rw [e] at en
        rw [if_pos (show ¬ enL (some r) = -1 from lq_m1 (show r < 2 ^ 63 by omega))]
        exact go _ (by rw [en]; exact lmin_lq (by omega) (by omega))
def NC (a : Nat → Nat) : Nat := (a 5 + 1) ^ a 0
theorem pw_le : ∀ b, b < 6 → ∀ n, n < 5 → b ^ n ≤ 625 := by decide +kernel
theorem NC_le {a : Nat → Nat} (hw : WF a) : NC a ≤ 625 := pw_le (a 5 + 1) (by have := wb hw; omega) (a 0) (by have := wb hw; omega)
theorem c_find5 {a : Nat → Nat} (hw : WF a) {ν : Nm} (h2 : gi ν 282 2 = nI (a 5)) : ∀ (k f i : Nat), i + k = a 0 → k < f → Bu_find_5 f 1 (nI (a 0)) (nI ((a 5 + 1) ^ i)) (nI i) ν = Bu_find_35 FU 1 (nI (NC a)) 0 ν := by
  have hb := wb hw
  intro k
  induction k with
  | zero =>
    intro f i hi hf
    obtain ⟨f, rfl⟩ := fsucc hf
    rw [Bu_find_5, if_pos (by rw [nI_le' (by omega) (by omega)]; omega), show i = a 0 by omega]
    rfl
  | succ k ih =>
    intro f i hi hf
    obtain ⟨f, rfl⟩ := fsucc hf
    rw [Bu_find_5, if_neg (by rw [nI_le' (by omega) (by omega)]; omega), if_neg (by rw [show (4 : Int32) = nI 4 from rfl, nI_le' (by omega) (by omega)]; omega), h2, show nI (a 5) + 1 = nI (a 5 + 1) from nI_add _ 1, nI_mul, show nI i + 1 = nI (i + 1) from nI_add i 1, ← Nat.pow_succ]
    exact ih f (i + 1) (by omega) (by omega)
/-- what looking at rows leaves alone -/
def kpR (ν ν2 : Nm) : Prop := (∀ q j, ¬ (276 ≤ q ∧ q ≤ 281) → gi ν2 q j = gi ν q j) ∧ ∀ q j, q ≠ 277 → gl ν2 q j = gl ν q j
theorem c_learnF {a : Nat → Nat} {ν0 ν ν2 : Nm} (h : CQ a ν0 ν) (hw : WF a) {s : Nat} (h1 : 1 ≤ s) (h2 : s < 2 ^ a 0) (he : Rw_learn (nI s) ν = some ν2) : kpR ν ν2 := by
  have hb := wb hw
  have p4 : 2 ^ a 0 ≤ 2 ^ 4 := Nat.pow_le_pow_right (by omega) hb.1
  have hs : s < 16 := by omega
  have hC := CQ_C h
  obtain ⟨⟨K, k1, k2, k3⟩, hr⟩ := id h.2.1
  unfold Rw_learn at he
  have bt : ((nI K >>> (nI s &&& 31)) &&& 1 = 0) = ¬ (K / 2 ^ s % 2 = 1) := propext (bit_tst k1 hs)
  rw [k2] at he
  simp only [bt] at he
  by_cases e : K / 2 ^ s % 2 = 1
  · rw [if_neg (by simp [e])] at he
    have := Option.some.inj he
    subst this
    exact ⟨fun _ _ _ => rfl, fun _ _ _ => rfl⟩
  · rw [if_pos e] at he
    obtain ⟨ν1, z1, z2, z3, z4⟩ := c_zero hs 241 FU 0 ν (by omega) (by unfold FU; omega)
    obtain ⟨νb, b1, b2, b3, b4, b5, b6⟩ := c_begin (a := a) (s := s) (v := 0) (L := 4) hs (ν := ν1) (fun c hc => by rw [z2]; exact cr_min hC hc)
    obtain ⟨ν3, w1, w2, w3⟩ := c_walkM hs 4 FR (by unfold FR; omega) 0 zer (r0 a s) zer νb (by omega) (RI_0 hw s hs) TI_0 b2 b3
    have b1' : Rw_begin (nI s) 0 4 ν1 = some νb := b1
    have w1' : G_wk FR 0 0 νb = some (false, ν3) := w1
    have z1' : Rw_learn_14 FU (nI s) 0 ν = _ := z1
    rw [z1', b1', Option.bind_some, w1', Option.bind_some] at he
    have := Option.some.inj he
    subst this
    refine ⟨fun q j hq => ?_, fun q j hq => ?_⟩
    · rw [gi_si, if_neg (by omega)]
      show gi ν3 q j = _
      rw [w2 q j (by unfold fw; omega), b5 q j (by omega), z2]
    · rw [gl_si]
      show gl ν3 q j = _
      rw [w3.2 q j (by omega), b6, z4 q j (by omega)]
theorem c_givesF {a : Nat → Nat} {ν0 ν : Nm} (h : CQ a ν0 ν) (hw : WF a) {s v : Nat} (h1 : 1 ≤ s) (h2 : s < 2 ^ a 0) (v1 : 1 ≤ v) (v2 : v ≤ 15360) : ∃ ν2, Rw_gives (nI s) (nI v) ν = some (gvB a s v, ν2) ∧ CQ a ν0 ν2 ∧ kpR ν ν2 := by
  obtain ⟨ν1, p1, p2, p3⟩ := c_learn h hw h1 h2
  obtain ⟨ν2, q1, q2⟩ := c_gives h hw h1 h2 v1 v2
  refine ⟨ν2, q1, q2, ?_⟩
  have e : ν2 = ν1 := by
    unfold Rw_gives Fm_isSpan at q1
    rw [within_isIn, show (1 : Int32) = nI 1 from rfl, show (15360 : Int32) = nI 15360 from rfl, isIn_t v1 v2 (by decide), Option.bind_some, Option.bind_some, if_pos (by rw [b2iT]; exact id), p1, Option.bind_some] at q1
    cases hm : Rw_marked ν1 (nI s) (nI v) with
    | none => rw [hm] at q1; cases q1
    | some bb =>
      rw [hm, Option.bind_some] at q1
      exact (Prod.mk.inj (Option.some.inj q1)).2.symm
  rw [e]
  exact c_learnF h hw h1 h2 p1
theorem kpR_tr {ν ν1 ν2 : Nm} (h : kpR ν ν1) (h2 : kpR ν1 ν2) : kpR ν ν2 := ⟨fun q j hq => (h2.1 q j hq).trans (h.1 q j hq), fun q j hq => (h2.2 q j hq).trans (h.2 q j hq)⟩
theorem c_setsGF {a : Nat → Nat} {ν0 : Nm} (hw : WF a) {v : Nat} (v1 : 1 ≤ v) (v2 : v ≤ 15360) : ∀ (k f s : Nat) (ν : Nm), s + k = 2 ^ a 0 → 1 ≤ s → k < f → CQ a ν0 ν → ∃ ν2, Fm_setsGiving_4 f (nI v) (nI (mask (gvP a v) s)) (nI s) ν = some (nI (mask (gvP a v) (2 ^ a 0)), ν2) ∧ CQ a ν0 ν2 ∧ kpR ν ν2 := by
  have hb := wb hw
  have p4 : 2 ^ a 0 ≤ 2 ^ 4 := Nat.pow_le_pow_right (by omega) hb.1
  intro k
  induction k with
  | zero =>
    intro f s ν hs h1 hf h
    obtain ⟨f, rfl⟩ := fsucc hf
    refine ⟨ν, ?_, h, fun _ _ _ => rfl, fun _ _ _ => rfl⟩
    rw [Fm_setsGiving_4, c_all (CQ_C h) hw, Option.bind_some, if_pos (by rw [nI_lt' (by omega) (by omega)]; omega), show s = 2 ^ a 0 by omega]
  | succ k ih =>
    intro f s ν hs h1 hf h
    obtain ⟨f, rfl⟩ := fsucc hf
    obtain ⟨ν1, p1, p2, p3⟩ := c_givesF h hw h1 (by omega) v1 v2
    have hl := mask_lt (gvP a v) s
    obtain ⟨ν2, n1, n2, n3⟩ := ih f (s + 1) ν1 (by omega) (by omega) (by omega) p2
    rw [show mask (gvP a v) (s + 1) = mask (gvP a v) s + (if gvP a v s = true then 2 ^ s else 0) from rfl] at n1
    have eg : gvP a v s = gvB a s v := by unfold gvP; rw [decide_eq_true (show s ≠ 0 by omega), Bool.true_and]
    refine ⟨ν2, ?_, n2, kpR_tr p3 n3⟩
    rw [Fm_setsGiving_4, c_all (CQ_C h) hw, Option.bind_some, if_neg (by rw [nI_lt' (by omega) (by omega)]; omega), p1, Option.bind_some]
    simp only []
    unfold Fm_setsGiving_30
    rw [show nI s + 1 = nI (s + 1) from nI_add s 1, show (1 : Int32) = nI 1 from rfl, nI_shl (by omega), Nat.one_mul, nI_or, show mask (gvP a v) s ||| 2 ^ s = mask (gvP a v) s + 2 ^ s by rw [Nat.or_comm, Nat.add_comm, show 2 ^ s = 1 * 2 ^ s by omega, or_add hl]]
    rw [eg] at n1
    by_cases q : gvB a s v = true
    · rw [q] at n1 ⊢
      rw [if_neg (by rw [b2iT]; exact id)]
      exact n1
    · rw [Bool.eq_false_iff.mpr q] at n1 ⊢
      rw [if_pos (by rw [b2iF]; exact True.intro)]
      exact n1
theorem c_fb21 {a : Nat → Nat} {ν0 : Nm} (hw : WF a) : ∀ (k f i : Nat) (ν : Nm), i + k = a 5 → k < f → CQ a ν0 ν → gi ν 282 2 = nI (a 5) → gl ν 282 3 = -1 → (∀ j, j < i → gi ν 283 j = nI (mask (gvP a (a (29 + j))) (2 ^ a 0))) → ∃ ν2, Fm_findBundle_21 f (nI (a 5)) (nI i) ν = some ((mnv (okC a) (rkC a) (NC a)).isSome, ν2) ∧ CQ a ν0 ν2 ∧ gl ν2 282 3 = enL (mnv (okC a) (rkC a) (NC a)) := by
  have hb := wb hw
  intro k
  induction k with
  | zero =>
    intro f i ν hi hf h h2 hL hG
    obtain ⟨f, rfl⟩ := fsucc hf
    obtain ⟨ν2, p1, p2, p3⟩ := c_find35 (ν0 := ν0) hw (NC_le hw) (NC a) FU 0 ν (by omega) (by have := NC_le hw; unfold FU; omega) h h2 (fun j hj => hG j (by omega)) hL
    refine ⟨ν2, ?_, p2, p3⟩
    rw [Fm_findBundle_21, if_pos (by rw [nI_le' (by omega) (by omega)]; omega)]
    unfold Fm_findBundle_62 Bu_find
    have e5 : Bu_find_5 FU 1 (nI (a 0)) 1 0 ν = Bu_find_35 FU 1 (nI (NC a)) 0 ν := c_find5 hw h2 (a 0) FU 0 (by omega) (by unfold FU; omega)
    have p1' : Bu_find_35 FU 1 (nI (NC a)) 0 ν = _ := p1
    rw [(cr (CQ_C h)).1, e5, p1', Option.bind_some]
  | succ k ih =>
    intro f i ν hi hf h h2 hL hG
    obtain ⟨f, rfl⟩ := fsucc hf
    have hi4 : i < 4 := by omega
    have v1 : 1 ≤ a (29 + i) := hw.2.2.2.2.1 i hi4 (by omega)
    have v2 := (wbc hw hi4).2.2.2.2
    have p0 : 1 ≤ 2 ^ a 0 := Nat.one_le_two_pow
    obtain ⟨ν1, p1, p2, p3⟩ := c_setsGF hw v1 v2 (2 ^ a 0 - 1) FU 1 ν (by omega) (by omega) (by have p4 : 2 ^ a 0 ≤ 2 ^ 4 := Nat.pow_le_pow_right (by omega) hb.1; unfold FU; omega) h
    have p1' : Fm_setsGiving (nI (a (29 + i))) ν = _ := p1
    obtain ⟨ν2, q1, q2⟩ := ih f (i + 1) (si ν1 283 i (nI (mask (gvP a (a (29 + i))) (2 ^ a 0)))) (by omega) (by omega) (CQ_bu hw p2 (fun q j hq => by rw [gi_si, if_neg (by omega)]) (fun q j _ => gl_si _ _ _ _ _ _)) (by rw [gi_si_q _ _ _ _ (by omega), p3.1 _ _ (by omega)]; exact h2) (by rw [gl_si, p3.2 _ _ (by omega)]; exact hL) (fun j hj => by
      by_cases z : j = i
      · subst z; rw [gi_si_s]
      · rw [gi_si_j _ _ _ z, p3.1 _ _ (by omega)]; exact hG j (by omega))
    refine ⟨ν2, ?_, q2⟩
    rw [Fm_findBundle_21, if_neg (by rw [nI_le' (by omega) (by omega)]; omega), if_neg (by rw [show (4 : Int32) = nI 4 from rfl, nI_le' (by omega) (by omega)]; omega), inb_nI (by omega), nI_clamp (by omega)]
    simp only [dT hi4, if_true]
    rw [cr_want (CQ_C h) hi4, p1', Option.bind_some, show nI i + 1 = nI (i + 1) from nI_add i 1]
    exact q1
theorem c_findB {a : Nat → Nat} {ν0 ν : Nm} (h : CQ a ν0 ν) (hw : WF a) : ∃ ν2, Fm_findBundle ν = some ((mnv (okC a) (rkC a) (NC a)).isSome, ν2) ∧ CQ a ν0 ν2 ∧ gl ν2 282 3 = enL (mnv (okC a) (rkC a) (NC a)) := by
  have hb := wb hw
  have e5 : gi ν 130 1 = nI (a 5) := (cr (CQ_C h)).2.2.2.2.2.1
  obtain ⟨ν2, p1, p2⟩ := c_fb21 (ν0 := ν0) hw (a 5) FU 0 (sl (si ν 282 2 (nI (a 5))) 282 3 (-1)) (by omega) (by unfold FU; omega) (CQ_bu hw h (fun q j hq => by rw [gi_sl, gi_si, if_neg (by omega)]) (fun q j hq => by rw [gl_sl, if_neg (fun z => hq z.1), gl_si])) (by rw [gi_sl, gi_si_s]) (by rw [gl_sl, if_pos ⟨rfl, rfl⟩]) (fun j hj => by omega)
  refine ⟨ν2, ?_, p2⟩
  unfold Fm_findBundle Bu_begin
  rw [e5, show (4 : Int32) = nI 4 from rfl, imin_n (by omega) (by omega), show min (a 5) 4 = a 5 by omega, Option.bind_some]
  exact p1

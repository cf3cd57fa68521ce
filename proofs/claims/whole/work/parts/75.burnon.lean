/-! The class burns on to the next moment, and chooses what is lit next. -/
def WC (m : Nat) (t r e : Nat → Nat) (ν : Nm) : Prop := (∀ c, c < 4 → gi ν 278 (4 * m + c) = nI (r c) ∧ gi ν 279 (4 * m + c) = nI (e c)) ∧ ∀ i, i ≤ m → gi ν 281 i = nI (t i)
def CHc (m x : Nat) (ν : Nm) : Prop := ∀ c, c < 4 → gi ν 280 (4 * m + c) = nI (dg x c)
theorem dT {i n : Nat} (h : i < n) : (decide (i < n) = true) = True := eq_true (decide_eq_true h)
theorem imin_n {s n : Nat} (hs : s < 2 ^ 31) (hn : n < 2 ^ 31) : imin (nI s) (nI n) = nI (min s n) := by
  unfold imin
  by_cases h : n < s
  · rw [if_pos (by rw [nI_lt' hn hs]; exact h), Nat.min_eq_right (by omega)]
  · rw [if_neg (by rw [nI_lt' hn hs]; exact h), Nat.min_eq_left (by omega)]
theorem c_burn14 {m x : Nat} {r e : Nat → Nat} (hm : m ≤ 3) (hr : RI r e) (hv : vl r e x = true) : ∀ (k f i s : Nat) (ν : Nm), i + k = 4 → k < f → s ≤ 3840 → (∀ c, c < 4 → gi ν 278 (4 * m + c) = nI (r c) ∧ gi ν 279 (4 * m + c) = nI (e c) ∧ gi ν 280 (4 * m + c) = nI (dg x c)) → ∃ ν2, Rw_burnOn_14 f (nI m) (nI (4 * m)) (nI (4 * m + 4)) (nI s) (nI i) ν = Rw_burnOn_104 FU (nI m) (nI (4 * m)) (nI (4 * m + 4)) (nI (byK r e x k i s)) 0 ν2 ∧ (∀ c, i ≤ c → c < 4 → gi ν2 279 (4 * m + 4 + c) = nI (bn e x c)) ∧ (∀ q j, ¬ (q = 279 ∧ 4 * m + 4 + i ≤ j) → gi ν2 q j = gi ν q j) ∧ ∀ q j, gl ν2 q j = gl ν q j := by
  intro k
  induction k with
  | zero =>
    intro f i s ν hi hf hs h
    obtain ⟨f, rfl⟩ := fsucc hf
    exact ⟨ν, by rw [Rw_burnOn_14, if_pos (by rw [show (4 : Int32) = nI 4 from rfl, nI_le' (by omega) (by omega)]; omega)]; rfl, fun c _ _ => by omega, fun _ _ _ => rfl, fun _ _ => rfl⟩
  | succ k ih =>
    intro f i s ν hi hf hs h
    obtain ⟨f, rfl⟩ := fsucc hf
    have i4 : i < 4 := by omega
    obtain ⟨g1, g2, g3⟩ := h i i4
    have hb := bn_le hr hv i4
    have hri := (hr i i4).1
    have e1 : nI (4 * m) + nI i = nI (4 * m + i) := nI_add _ _
    have e2 : nI (4 * m + 4) + nI i = nI (4 * m + 4 + i) := nI_add _ _
    have eb : gi ν 279 (4 * m + i) + gi ν 280 (4 * m + i) = nI (bn e x i) := by rw [g2, g3, nI_add]; rfl
    have e3 : nI i + 1 = nI (i + 1) := nI_add i 1
    rw [Rw_burnOn_14, if_neg (by rw [show (4 : Int32) = nI 4 from rfl, nI_le' (by omega) (by omega)]; omega), e1, e2, inb_nI (show 4 * m + i < 2 ^ 31 by omega), inb_nI (show 4 * m + 4 + i < 2 ^ 31 by omega), nI_clamp (show 4 * m + i < 2 ^ 31 by omega), nI_clamp (show 4 * m + 4 + i < 2 ^ 31 by omega)]
    simp only [dT (show 4 * m + i < 20 by omega), dT (show 4 * m + 4 + i < 20 by omega), if_true]
    rw [eb]
    have z1 : (nI (bn e x i) ≤ 0) = (bn e x i = 0) := by rw [show (0 : Int32) = nI 0 from rfl, nI_le' (by omega) (by omega)]; exact propext (by omega)
    have z2 : (nI (bn e x i) = 0) = (bn e x i = 0) := nI_eq' (b := 0) (by omega) (by decide)
    simp only [z1, z2]
    have step : ∀ s2, s2 ≤ 3840 → byK r e x k (i + 1) s2 = byK r e x (k + 1) i s → ∃ ν2, Rw_burnOn_14 f (nI m) (nI (4 * m)) (nI (4 * m + 4)) (nI s2) (nI (i + 1)) (si ν 279 (4 * m + 4 + i) (nI (bn e x i))) = Rw_burnOn_104 FU (nI m) (nI (4 * m)) (nI (4 * m + 4)) (nI (byK r e x (k + 1) i s)) 0 ν2 ∧ (∀ c, i ≤ c → c < 4 → gi ν2 279 (4 * m + 4 + c) = nI (bn e x c)) ∧ (∀ q j, ¬ (q = 279 ∧ 4 * m + 4 + i ≤ j) → gi ν2 q j = gi ν q j) ∧ ∀ q j, gl ν2 q j = gl ν q j := by
      intro s2 hs2 heq
      obtain ⟨ν2, p1, p2, p3, p4⟩ := ih f (i + 1) s2 (si ν 279 (4 * m + 4 + i) (nI (bn e x i))) (by omega) (by omega) hs2 (fun c hc => by
        obtain ⟨y1, y2, y3⟩ := h c hc
        exact ⟨by rw [gi_si_q _ _ _ _ (by omega)]; exact y1, by rw [gi_si_j _ _ _ (by omega)]; exact y2, by rw [gi_si_q _ _ _ _ (by omega)]; exact y3⟩)
      refine ⟨ν2, by rw [p1, heq], fun c c1 c2 => ?_, fun q j hq => by rw [p3 q j (by omega), gi_si, if_neg (by omega)], fun q j => by rw [p4, gl_si]⟩
      by_cases ec : c = i
      · subst ec; rw [p3 _ _ (by omega), gi_si_s]
      · exact p2 c (by omega) c2
    by_cases e0 : bn e x i = 0
    · rw [if_pos e0]
      unfold Rw_burnOn_95
      rw [e3]
      exact step s hs (by show _ = byK r e x k (i + 1) (if bn e x i = 0 then s else _); rw [if_pos e0])
    · have hn := nd_le hr hv i4 e0
      rw [if_neg e0, if_neg e0, gi_si_q _ _ _ _ (by omega), g1]
      have ed : (nI (r i) + nI (bn e x i) - 1) / nI (bn e x i) = nI (nd r e x i) := by
        rw [nI_add, show (1 : Int32) = nI 1 from rfl, nI_sub (by omega), nI_div (by omega) (by omega)]; rfl
      rw [ed]
      unfold Rw_burnOn_76 Rw_burnOn_93 Rw_burnOn_95
      have z3 : (nI s = 0) = (s = 0) := nI_eq' (b := 0) (by omega) (by decide)
      simp only [z3]
      rw [e3, imin_n (by omega) (by omega)]
      by_cases es : s = 0
      · rw [if_neg (by simp [es])]
        exact step (nd r e x i) hn.2.1 (by show _ = byK r e x k (i + 1) (if bn e x i = 0 then s else if s = 0 then nd r e x i else _); rw [if_neg e0, if_pos es])
      · rw [if_pos es]
        exact step (min s (nd r e x i)) (by omega) (by show _ = byK r e x k (i + 1) (if bn e x i = 0 then s else if s = 0 then nd r e x i else min s (nd r e x i)); rw [if_neg e0, if_neg es])
theorem c_burn104 {m x : Nat} {r e t : Nat → Nat} (hm : m ≤ 3) (hr : RI r e) (hv : vl r e x = true) (ht : TI m t) : ∀ (k f i : Nat) (ν : Nm), i + k = 4 → k < f → (∀ c, c < 4 → gi ν 278 (4 * m + c) = nI (r c)) → (∀ c, i ≤ c → c < 4 → gi ν 279 (4 * m + 4 + c) = nI (bn e x c)) → gi ν 281 m = nI (t m) → ∃ ν2, Rw_burnOn_104 f (nI m) (nI (4 * m)) (nI (4 * m + 4)) (nI (byA r e x)) (nI i) ν = some (decide (byA r e x ≠ 0), ν2) ∧ (∀ c, i ≤ c → c < 4 → gi ν2 278 (4 * m + 4 + c) = nI (nr r e x c) ∧ gi ν2 279 (4 * m + 4 + c) = nI (ne r e x c)) ∧ gi ν2 281 (m + 1) = nI (t m + byA r e x) ∧ (∀ q j, ¬ ((q = 278 ∨ q = 279) ∧ 4 * m + 4 + i ≤ j) → ¬ (q = 281 ∧ j = m + 1) → gi ν2 q j = gi ν q j) ∧ ∀ q j, gl ν2 q j = gl ν q j := by
  have hby := by_le hr hv
  intro k
  induction k with
  | zero =>
    intro f i ν hi hf h1 h2 h3
    obtain ⟨f, rfl⟩ := fsucc hf
    have ht2 := ht.2
    have e1 : nI m + 1 = nI (m + 1) := nI_add m 1
    refine ⟨si ν 281 (m + 1) (nI (t m + byA r e x)), ?_, fun c _ _ => by omega, gi_si_s _ _ _ _, fun q j _ hq => by rw [gi_si, if_neg hq], fun q j => gl_si _ _ _ _ _ _⟩
    rw [Rw_burnOn_104, if_pos (by rw [show (4 : Int32) = nI 4 from rfl, nI_le' (by omega) (by omega)]; omega), e1, inb_nI (show m < 2 ^ 31 by omega), inb_nI (show m + 1 < 2 ^ 31 by omega), nI_clamp (show m < 2 ^ 31 by omega), nI_clamp (show m + 1 < 2 ^ 31 by omega)]
    simp only [dT (show m < 5 by omega), dT (show m + 1 < 5 by omega), if_true]
    rw [h3, nI_add]
    by_cases z : byA r e x = 0
    · rw [if_pos (by rw [show (0 : Int32) = nI 0 from rfl, nI_le' (by omega) (by omega)]; omega), decide_eq_false (by simp [z])]
    · rw [if_neg (by rw [show (0 : Int32) = nI 0 from rfl, nI_le' (by omega) (by omega)]; omega), decide_eq_true z]
  | succ k ih =>
    intro f i ν hi hf h1 h2 h3
    obtain ⟨f, rfl⟩ := fsucc hf
    have i4 : i < 4 := by omega
    have hb := bn_le hr hv i4
    have hri := (hr i i4).1
    have hmul : byA r e x * bn e x i ≤ 3840 * 2 := Nat.mul_le_mul hby hb.1
    have e1 : nI (4 * m) + nI i = nI (4 * m + i) := nI_add _ _
    have e2 : nI (4 * m + 4) + nI i = nI (4 * m + 4 + i) := nI_add _ _
    have e3 : nI i + 1 = nI (i + 1) := nI_add i 1
    have en : imax 0 (gi ν 278 (4 * m + i) - nI (byA r e x) * gi ν 279 (4 * m + 4 + i)) = nI (nr r e x i) := by
      rw [h1 i i4, h2 i (by omega) i4, nI_mul, imax_sub (by omega) (by omega)]; rfl
    rw [Rw_burnOn_104, if_neg (by rw [show (4 : Int32) = nI 4 from rfl, nI_le' (by omega) (by omega)]; omega), e1, e2, inb_nI (show 4 * m + i < 2 ^ 31 by omega), inb_nI (show 4 * m + 4 + i < 2 ^ 31 by omega), nI_clamp (show 4 * m + i < 2 ^ 31 by omega), nI_clamp (show 4 * m + 4 + i < 2 ^ 31 by omega)]
    simp only [dT (show 4 * m + i < 20 by omega), dT (show 4 * m + 4 + i < 20 by omega), if_true]
    rw [en, gi_si_q _ _ _ _ (by omega), h2 i (by omega) i4]
    have hnr : nr r e x i ≤ 3840 := by unfold nr; omega
    have z1 : (nI (nr r e x i) = 0) = (nr r e x i = 0) := nI_eq' (b := 0) (by omega) (by decide)
    simp only [z1]
    unfold Rw_burnOn_175
    rw [inb_nI (show 4 * m + 4 + i < 2 ^ 31 by omega), nI_clamp (show 4 * m + 4 + i < 2 ^ 31 by omega)]
    simp only [dT (show 4 * m + 4 + i < 20 by omega), if_true]
    rw [e3]
    have step : ∃ ν2, Rw_burnOn_104 f (nI m) (nI (4 * m)) (nI (4 * m + 4)) (nI (byA r e x)) (nI (i + 1)) (si (si ν 278 (4 * m + 4 + i) (nI (nr r e x i))) 279 (4 * m + 4 + i) (nI (ne r e x i))) = some (decide (byA r e x ≠ 0), ν2) ∧ (∀ c, i ≤ c → c < 4 → gi ν2 278 (4 * m + 4 + c) = nI (nr r e x c) ∧ gi ν2 279 (4 * m + 4 + c) = nI (ne r e x c)) ∧ gi ν2 281 (m + 1) = nI (t m + byA r e x) ∧ (∀ q j, ¬ ((q = 278 ∨ q = 279) ∧ 4 * m + 4 + i ≤ j) → ¬ (q = 281 ∧ j = m + 1) → gi ν2 q j = gi ν q j) ∧ ∀ q j, gl ν2 q j = gl ν q j := by
      obtain ⟨ν2, p1, p2, p3, p4, p5⟩ := ih f (i + 1) (si (si ν 278 (4 * m + 4 + i) (nI (nr r e x i))) 279 (4 * m + 4 + i) (nI (ne r e x i))) (by omega) (by omega) (fun c hc => by rw [gi_si_q _ _ _ _ (by omega), gi_si_j _ _ _ (by omega)]; exact h1 c hc) (fun c c1 c2 => by rw [gi_si_j _ _ _ (by omega), gi_si_q _ _ _ _ (by omega)]; exact h2 c (by omega) c2) (by rw [gi_si_q _ _ _ _ (by omega), gi_si_q _ _ _ _ (by omega)]; exact h3)
      refine ⟨ν2, p1, fun c c1 c2 => ?_, p3, fun q j hq hq2 => by rw [p4 q j (by omega) hq2, gi_si, if_neg (by omega), gi_si, if_neg (by omega)], fun q j => by rw [p5, gl_si, gl_si]⟩
      by_cases ec : c = i
      · subst ec
        rw [p4 _ _ (by omega) (by omega), p4 _ _ (by omega) (by omega), gi_si_s, gi_si_q _ _ _ _ (by omega), gi_si_s]
        exact ⟨rfl, rfl⟩
      · exact p2 c (by omega) c2
    by_cases z : nr r e x i = 0
    · have ez : ne r e x i = 0 := by unfold ne; rw [if_pos z]
      rw [if_neg (by simp [z])]
      rw [ez] at step
      exact step
    · have ez : ne r e x i = bn e x i := by unfold ne; rw [if_neg z]
      rw [if_pos z]
      rw [ez] at step
      exact step
theorem c_burnOn {m x : Nat} {r e t : Nat → Nat} (hm : m ≤ 3) (hr : RI r e) (hv : vl r e x = true) (ht : TI m t) {ν : Nm} (hW : WC m t r e ν) (hC : CHc m x ν) : ∃ ν2, Rw_burnOn (nI m) ν = some (decide (byA r e x ≠ 0), ν2) ∧ WC (m + 1) (upn t (m + 1) (t m + byA r e x)) (nr r e x) (ne r e x) ν2 ∧ (∀ q j, ¬ ((q = 278 ∨ q = 279) ∧ 4 * m + 4 ≤ j) → ¬ (q = 281 ∧ j = m + 1) → gi ν2 q j = gi ν q j) ∧ ∀ q j, gl ν2 q j = gl ν q j := by
  obtain ⟨ν1, p1, p2, p3, p4⟩ := c_burn14 hm hr hv 4 FU 0 0 ν (by omega) (by unfold FU; omega) (by omega) (fun c hc => ⟨(hW.1 c hc).1, (hW.1 c hc).2, hC c hc⟩)
  obtain ⟨ν2, q1, q2, q3, q4, q5⟩ := c_burn104 hm hr hv ht 4 FU 0 ν1 (by omega) (by unfold FU; omega) (fun c hc => by rw [p3 _ _ (by omega)]; exact (hW.1 c hc).1) (fun c c1 c2 => p2 c c1 c2) (by rw [p3 _ _ (by omega)]; exact hW.2 m (by omega))
  have em : nI m * 4 = nI (4 * m) := by rw [Nat.mul_comm]; exact nI_mul m 4
  refine ⟨ν2, ?_, ⟨fun c hc => ?_, fun i hi => ?_⟩, fun q j h1 h2 => by rw [q4 q j h1 h2, p3 q j (by omega)], fun q j => by rw [q5, p4]⟩
  · unfold Rw_burnOn
    rw [em, show nI (4 * m) + 4 = nI (4 * m + 4) from nI_add _ 4]
    exact p1.trans q1
  · rw [show 4 * (m + 1) + c = 4 * m + 4 + c by omega]; exact q2 c (by omega) hc
  · by_cases z : i = m + 1
    · subst z; rw [upn_s]; exact q3
    · rw [upn_n _ _ z, q4 _ _ (by omega) (by omega), p3 _ _ (by omega)]; exact hW.2 i (by omega)
/-! what is lit next -/
def nxv (r e : Nat → Nat) (x : Nat) : Option Nat := nxq (mo r e 0) (mo r e 1) (mo r e 2) (mo r e 3) x
theorem c_ch1 {m x c : Nat} {t r e : Nat → Nat} (hm : m ≤ 3) (hc : c < 4) (hr : RI r e) {ν : Nm} (hW : WC m t r e ν) (hx : gi ν 280 (4 * m + c) = nI (dg x c)) (f : Nat) : Rw_chooseNext_6 (f + 1) (nI (4 * m)) (nI c) ν = if dg x c < mo r e c then some (true, si ν 280 (4 * m + c) (nI (dg x c + 1))) else Rw_chooseNext_6 f (nI (4 * m)) (nI (c + 1)) (si ν 280 (4 * m + c) 0) := by
  have hrc := hr c hc
  have hd := dg_le x c
  have e1 : nI (4 * m) + nI c = nI (4 * m + c) := nI_add _ _
  have e3 : nI c + 1 = nI (c + 1) := nI_add c 1
  rw [Rw_chooseNext_6, if_neg (by rw [show (4 : Int32) = nI 4 from rfl, nI_le' (by omega) (by omega)]; omega), e1, inb_nI (show 4 * m + c < 2 ^ 31 by omega), nI_clamp (show 4 * m + c < 2 ^ 31 by omega)]
  simp only [dT (show 4 * m + c < 20 by omega), if_true]
  rw [(hW.1 c hc).1, (hW.1 c hc).2, show (2 : Int32) - nI (e c) = nI (2 - e c) from nI_sub (a := 2) hrc.2.1]
  have z : (nI (r c) = 0) = (r c = 0) := nI_eq' (b := 0) (by omega) (by decide)
  simp only [z]
  have key : ∀ M, M ≤ 2 → Rw_chooseNext_36 (Rw_chooseNext_6 f) (nI (4 * m)) (nI c) (nI M) ν = if dg x c < M then some (true, si ν 280 (4 * m + c) (nI (dg x c + 1))) else Rw_chooseNext_6 f (nI (4 * m)) (nI (c + 1)) (si ν 280 (4 * m + c) 0) := by
    intro M hM
    unfold Rw_chooseNext_36
    rw [e1, inb_nI (show 4 * m + c < 2 ^ 31 by omega), nI_clamp (show 4 * m + c < 2 ^ 31 by omega)]
    simp only [dT (show 4 * m + c < 20 by omega), if_true]
    rw [hx, e3, show nI (dg x c) + 1 = nI (dg x c + 1) from nI_add _ 1]
    by_cases q : dg x c < M
    · rw [if_neg (by rw [nI_le' (by omega) (by omega)]; omega), if_pos q]
    · rw [if_pos (by rw [nI_le' (by omega) (by omega)]; omega), if_neg q]
  unfold mo
  by_cases q : r c = 0
  · rw [if_neg (by simp [q]), if_pos q]; exact key 0 (by omega)
  · rw [if_pos q, if_neg q]; exact key (2 - e c) (by omega)
def chr (r e : Nat → Nat) (x : Nat) : Nat → Nat → Option Nat
  | 0, _ => none
  | k + 1, c => if dg x c < mo r e c then some (x - x % 3 ^ c + 3 ^ c) else chr r e x k (c + 1)
theorem chq_chr (r e : Nat → Nat) (x : Nat) : chq (mo r e 0) (mo r e 1) (mo r e 2) (mo r e 3) x = chr r e x 4 0 := rfl
theorem c_choose {m x : Nat} {t r e : Nat → Nat} (hm : m ≤ 3) (hx : x < 81) (hr : RI r e) (hv : vl r e x = true) {ν : Nm} (hW : WC m t r e ν) (hC : CHc m x ν) : ∃ ν2, Rw_chooseNext (nI m) ν = some ((nxv r e x).isSome, ν2) ∧ (∀ y, nxv r e x = some y → CHc m y ν2) ∧ (∀ q j, ¬ (q = 280 ∧ 4 * m ≤ j ∧ j < 4 * m + 4) → gi ν2 q j = gi ν q j) ∧ ∀ q j, gl ν2 q j = gl ν q j := by
  have em : nI m * 4 = nI (4 * m) := by rw [Nat.mul_comm]; exact nI_mul m 4
  have hml := mo_le r e
  have hm0 := hml 0
  have hm1 := hml 1
  have hm2 := hml 2
  have hm3 := hml 3
  have hn : nxv r e x = chq (mo r e 0) (mo r e 1) (mo r e 2) (mo r e 3) x := ch_nx (by omega) (by omega) (by omega) (by omega) hx hv
  rw [hn, chq_chr]
  unfold Rw_chooseNext
  rw [em, show (0 : Int32) = nI 0 from rfl]
  have W1 : ∀ (c : Nat) (v : Int32) (ν3 : Nm), WC m t r e ν3 → WC m t r e (si ν3 280 (4 * m + c) v) := fun c v ν3 h => ⟨fun d hd => ⟨by rw [gi_si_q _ _ _ _ (by omega)]; exact (h.1 d hd).1, by rw [gi_si_q _ _ _ _ (by omega)]; exact (h.1 d hd).2⟩, fun i hi => by rw [gi_si_q _ _ _ _ (by omega)]; exact h.2 i hi⟩
  -- the cells after c digits were put back
  have fin : ∀ c, c < 4 → ∀ ν3, (∀ d, d < 4 → gi ν3 280 (4 * m + d) = if d < c then nI 0 else nI (dg x d)) → dg x c < mo r e c → CHc m (x - x % 3 ^ c + 3 ^ c) (si ν3 280 (4 * m + c) (nI (dg x c + 1))) := by
    intro c hc ν3 h3 hlt d hd
    have hu := (dg_up x hx c hc (by have := hml c; omega)).2 d hd
    rw [hu]
    by_cases z : d = c
    · subst z; rw [gi_si_s, if_neg (by omega), if_pos rfl]
    · rw [gi_si_j _ _ _ (by omega), h3 d hd, if_neg z]
      by_cases z2 : d < c
      · rw [if_pos z2, if_pos z2]
      · rw [if_neg z2, if_neg z2]
  have fr : ∀ (c : Nat) (v : Int32) (ν3 : Nm), c < 4 → (∀ q j, ¬ (q = 280 ∧ 4 * m ≤ j ∧ j < 4 * m + 4) → gi ν3 q j = gi ν q j) → ∀ q j, ¬ (q = 280 ∧ 4 * m ≤ j ∧ j < 4 * m + 4) → gi (si ν3 280 (4 * m + c) v) q j = gi ν q j := fun c v ν3 hc h q j hq => by rw [gi_si, if_neg (by omega), h q j hq]
  have z0 : ∀ d, d < 4 → gi ν 280 (4 * m + d) = if d < 0 then nI 0 else nI (dg x d) := fun d hd => by rw [if_neg (by omega)]; exact hC d hd
  have nxt : ∀ c, c < 4 → ∀ ν3, (∀ d, d < 4 → gi ν3 280 (4 * m + d) = if d < c then nI 0 else nI (dg x d)) → ∀ d, d < 4 → gi (si ν3 280 (4 * m + c) 0) 280 (4 * m + d) = if d < c + 1 then nI 0 else nI (dg x d) := by
    intro c hc ν3 h3 d hd
    by_cases z : d = c
    · subst z; rw [gi_si_s, if_pos (by omega)]; rfl
    · rw [gi_si_j _ _ _ (by omega), h3 d hd]
      by_cases z2 : d < c
      · rw [if_pos z2, if_pos (by omega)]
      · rw [if_neg z2, if_neg (by omega)]
  have recu : ∀ (k f c : Nat) (ν3 : Nm), c + k = 4 → k < f → (∀ d, d < 4 → gi ν3 280 (4 * m + d) = if d < c then nI 0 else nI (dg x d)) → WC m t r e ν3 → (∀ q j, ¬ (q = 280 ∧ 4 * m ≤ j ∧ j < 4 * m + 4) → gi ν3 q j = gi ν q j) → (∀ q j, gl ν3 q j = gl ν q j) → ∃ ν2, Rw_chooseNext_6 f (nI (4 * m)) (nI c) ν3 = some ((chr r e x k c).isSome, ν2) ∧ (∀ y, chr r e x k c = some y → CHc m y ν2) ∧ (∀ q j, ¬ (q = 280 ∧ 4 * m ≤ j ∧ j < 4 * m + 4) → gi ν2 q j = gi ν q j) ∧ ∀ q j, gl ν2 q j = gl ν q j := by
    intro k
    induction k with
    | zero =>
      intro f c ν3 hc hf h1 h2 h3 h4
      obtain ⟨f, rfl⟩ := fsucc hf
      exact ⟨ν3, by rw [Rw_chooseNext_6, if_pos (by rw [show (4 : Int32) = nI 4 from rfl, nI_le' (by omega) (by omega)]; omega)]; rfl, fun y hy => (by cases hy), h3, h4⟩
    | succ k ih =>
      intro f c ν3 hc hf h1 h2 h3 h4
      obtain ⟨f, rfl⟩ := fsucc hf
      have hx0 : gi ν3 280 (4 * m + c) = nI (dg x c) := by rw [h1 c (by omega), if_neg (by omega)]
      rw [c_ch1 hm (by omega) hr h2 hx0]
      unfold chr
      by_cases q : dg x c < mo r e c
      · rw [if_pos q, if_pos q]
        exact ⟨_, rfl, fun y hy => by rw [← Option.some.inj hy]; exact fin c (by omega) ν3 h1 q, fr c _ ν3 (by omega) h3, fun q j => by rw [gl_si, h4]⟩
      · rw [if_neg q, if_neg q]
        exact ih f (c + 1) _ (by omega) (by omega) (nxt c (by omega) ν3 h1) (W1 c 0 ν3 h2) (fr c 0 ν3 (by omega) h3) (fun q j => by rw [gl_si, h4])
  exact recu 4 FU 0 ν (by omega) (by unfold FU; omega) z0 hW (fun _ _ _ => rfl) (fun _ _ => rfl)

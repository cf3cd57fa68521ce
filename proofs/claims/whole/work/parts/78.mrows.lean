/-! The model: what can be lit, and the next moment. -/
theorem dgO : ∀ x, x < 81 → ∀ c, c < 4 → Md_digitOf (nI x) (nI c) = some (nI (dg x c)) := by decide +kernel
def WM (m : Nat) (t r e : Nat → Nat) (ν : Nm) : Prop := (∀ c, c < 4 → gi ν 325 (4 * m + c) = nI (r c) ∧ gi ν 326 (4 * m + c) = nI (e c)) ∧ ∀ i, i ≤ m → gi ν 323 i = nI (t i)
/-- from cord c on, all can be lit -/
def vk (r e : Nat → Nat) (x : Nat) : Nat → Nat → Bool
  | 0, _ => true
  | k + 1, c => decide (dg x c ≤ mo r e c) && vk r e x k (c + 1)
theorem vl_vk (r e : Nat → Nat) (x : Nat) : vl r e x = vk r e x 4 0 := by
  unfold vl
  simp only [vk, Bool.and_true, Nat.zero_add, Nat.reduceAdd]
theorem m_lt2 {m x : Nat} {t r e : Nat → Nat} (hm : m ≤ 4) (hx : x < 81) (hr : RI r e) {ν : Nm} (hW : WM m t r e ν) : ∀ (k f c : Nat), c + k = 4 → k < f → Md_isLighting_2 ν f (nI m) (nI x) (nI c) = some (vk r e x k c && decide (0 < m ∨ 0 < x)) := by
  intro k
  induction k with
  | zero =>
    intro f c hc hf
    obtain ⟨f, rfl⟩ := fsucc hf
    rw [Md_isLighting_2, if_pos (by rw [show (4 : Int32) = nI 4 from rfl, nI_le' (by omega) (by omega)]; omega)]
    show _ = some (true && _)
    rw [Bool.true_and]
    by_cases q : 0 < m
    · rw [if_pos (by rw [show (0 : Int32) = nI 0 from rfl, nI_lt' (by omega) (by omega)]; exact q), decide_eq_true (Or.inl q)]
    · rw [if_neg (by rw [show (0 : Int32) = nI 0 from rfl, nI_lt' (by omega) (by omega)]; exact q)]
      by_cases q2 : 0 < x
      · rw [if_neg (by rw [show (0 : Int32) = nI 0 from rfl, nI_le' (by omega) (by omega)]; omega), decide_eq_true (Or.inr q2)]
      · rw [if_pos (by rw [show (0 : Int32) = nI 0 from rfl, nI_le' (by omega) (by omega)]; omega), decide_eq_false (by omega)]
  | succ k ih =>
    intro f c hc hf
    obtain ⟨f, rfl⟩ := fsucc hf
    have hc4 : c < 4 := by omega
    have hrc := hr c hc4
    have hd := dg_le x c
    have nx := ih f (c + 1) (by omega) (by omega)
    have key : ∀ M, M ≤ 2 → M = mo r e c → Md_isLighting_41 ν (Md_isLighting_2 ν f) (nI m) (nI x) (nI c) (nI M) (nI (dg x c)) = some (vk r e x (k + 1) c && decide (0 < m ∨ 0 < x)) := by
      intro M hM e1
      unfold Md_isLighting_41
      rw [show nI c + 1 = nI (c + 1) from nI_add c 1, nx]
      show _ = some ((decide (dg x c ≤ mo r e c) && vk r e x k (c + 1)) && _)
      rw [← e1]
      by_cases q : dg x c ≤ M
      · rw [if_pos (by rw [nI_le' (by omega) (by omega)]; exact q), decide_eq_true q, Bool.true_and]
      · rw [if_neg (by rw [nI_le' (by omega) (by omega)]; exact q), decide_eq_false q, Bool.false_and, Bool.false_and]
    rw [Md_isLighting_2, if_neg (by rw [show (4 : Int32) = nI 4 from rfl, nI_le' (by omega) (by omega)]; omega), dgO x hx c hc4, Option.bind_some, show (4 : Int32) * nI m = nI (4 * m) from nI_mul 4 m, nI_add, inb_nI (show 4 * m + c < 2 ^ 31 by omega), nI_clamp (show 4 * m + c < 2 ^ 31 by omega)]
    simp only [dT (show 4 * m + c < 24 by omega), if_true]
    rw [(hW.1 c hc4).1, (hW.1 c hc4).2, show (2 : Int32) - nI (e c) = nI (2 - e c) from nI_sub (a := 2) hrc.2.1]
    have z : (nI (r c) = 0) = (r c = 0) := nI_eq' (b := 0) (by omega) (by decide)
    simp only [z]
    by_cases q : r c = 0
    · rw [if_neg (by simp [q])]; exact key 0 (by omega) (by unfold mo; rw [if_pos q])
    · rw [if_pos q]; exact key (2 - e c) (by omega) (by unfold mo; rw [if_neg q])
theorem m_lighting {m x : Nat} {t r e : Nat → Nat} (hm : m ≤ 4) (hx : x < 81) (hr : RI r e) {ν : Nm} (hW : WM m t r e ν) : Md_isLighting ν (nI m) (nI x) = some (vl r e x && decide (0 < m ∨ 0 < x)) := by
  rw [vl_vk]
  exact m_lt2 hm hx hr hW 4 FU 0 (by omega) (by unfold FU; omega)
/-- the model's number for nothing is a million -/
def mil0 (s : Nat) : Nat := if s = 0 then 1000000 else s
theorem m_next11 {m x : Nat} {t r e : Nat → Nat} (hm : m ≤ 4) (hx : x < 81) (hr : RI r e) (hv : vl r e x = true) {ν : Nm} (hW : WM m t r e ν) (hC : gi ν 324 m = nI x) : ∀ (k f i s : Nat), i + k = 4 → k < f → s ≤ 3840 → Md_isNext_11 f (nI m) (nI (4 * m)) (nI (mil0 s)) (nI i) ν = if byK r e x k i s ≠ 0 then Md_isNext_118 FU (nI m) (nI (4 * m)) (nI (byK r e x k i s)) 0 (si ν 323 (m + 1) (nI (t m) + nI (byK r e x k i s))) else some (false, ν) := by
  intro k
  induction k with
  | zero =>
    intro f i s hi hf hs
    obtain ⟨f, rfl⟩ := fsucc hf
    rw [Md_isNext_11, if_pos (by rw [show (4 : Int32) = nI 4 from rfl, nI_le' (by omega) (by omega)]; omega), show nI m + 1 = nI (m + 1) from nI_add m 1, inb_nI (show m < 2 ^ 31 by omega), inb_nI (show m + 1 < 2 ^ 31 by omega), nI_clamp (show m < 2 ^ 31 by omega), nI_clamp (show m + 1 < 2 ^ 31 by omega)]
    simp only [dT (show m < 6 by omega), dT (show m + 1 < 6 by omega), if_true]
    show _ = if s ≠ 0 then _ else _
    unfold mil0
    rw [hW.2 m (by omega)]
    by_cases q : s = 0
    · rw [if_pos q, if_neg (show ¬ ¬ nI 1000000 = (1000000 : Int32) from fun z => z rfl), if_neg (show ¬ s ≠ 0 from fun z => z q)]
    · rw [if_neg q, if_pos q, if_pos (by rw [show (1000000 : Int32) = nI 1000000 from rfl, nI_eq' (by omega) (by omega)]; omega)]
      rfl
  | succ k ih =>
    intro f i s hi hf hs
    obtain ⟨f, rfl⟩ := fsucc hf
    have i4 : i < 4 := by omega
    have hb := bn_le hr hv i4
    have hri := (hr i i4).1
    have eb : gi ν 326 (4 * m + i) + nI (dg x i) = nI (bn e x i) := by rw [(hW.1 i i4).2, nI_add]; rfl
    have e3 : nI i + 1 = nI (i + 1) := nI_add i 1
    have hml : mil0 s ≤ 1000000 := by unfold mil0; split <;> omega
    rw [Md_isNext_11, if_neg (by rw [show (4 : Int32) = nI 4 from rfl, nI_le' (by omega) (by omega)]; omega), nI_add, inb_nI (show 4 * m + i < 2 ^ 31 by omega), inb_nI (show m < 2 ^ 31 by omega), nI_clamp (show 4 * m + i < 2 ^ 31 by omega), nI_clamp (show m < 2 ^ 31 by omega)]
    simp only [dT (show 4 * m + i < 24 by omega), dT (show m < 6 by omega), if_true]
    rw [hC, dgO x hx i i4, Option.bind_some, eb, (hW.1 i i4).1]
    have z1 : (nI (bn e x i) ≤ 0) = (bn e x i = 0) := by rw [show (0 : Int32) = nI 0 from rfl, nI_le' (by omega) (by omega)]; exact propext (by omega)
    have z2 : (nI (bn e x i) = 0) = (bn e x i = 0) := nI_eq' (b := 0) (by omega) (by decide)
    simp only [z1, z2]
    unfold Md_isNext_84
    rw [e3]
    show _ = if byK r e x k (i + 1) (if bn e x i = 0 then s else if s = 0 then nd r e x i else min s (nd r e x i)) ≠ 0 then Md_isNext_118 FU (nI m) (nI (4 * m)) (nI (byK r e x k (i + 1) (if bn e x i = 0 then s else if s = 0 then nd r e x i else min s (nd r e x i)))) 0 (si ν 323 (m + 1) (nI (t m) + nI (byK r e x k (i + 1) (if bn e x i = 0 then s else if s = 0 then nd r e x i else min s (nd r e x i))))) else some (false, ν)
    by_cases e0 : bn e x i = 0
    · simp only [e0, if_true]
      exact ih f (i + 1) s (by omega) (by omega) hs
    · have hn := nd_le hr hv i4 e0
      have ed : (nI (r i) + nI (bn e x i) - 1) / nI (bn e x i) = nI (nd r e x i) := by
        rw [nI_add, show (1 : Int32) = nI 1 from rfl, nI_sub (by omega), nI_div (by omega) (by omega)]; rfl
      simp only [e0, if_false]
      rw [ed]
      have es : nI (nd r e x i) = nI (mil0 (nd r e x i)) := by unfold mil0; rw [if_neg (by omega)]
      by_cases q : s = 0
      · rw [if_pos q, if_neg (by rw [nI_le' (by omega) (by omega)]; unfold mil0; rw [if_pos q]; omega), es]
        exact ih f (i + 1) _ (by omega) (by omega) hn.2.1
      · have em : mil0 s = s := by unfold mil0; rw [if_neg q]
        rw [if_neg q]
        by_cases q2 : s ≤ nd r e x i
        · rw [if_pos (by rw [nI_le' (by omega) (by omega), em]; exact q2), Nat.min_eq_left q2]
          exact ih f (i + 1) s (by omega) (by omega) hs
        · rw [if_neg (by rw [nI_le' (by omega) (by omega), em]; exact q2), Nat.min_eq_right (by omega), es]
          exact ih f (i + 1) _ (by omega) (by omega) hn.2.1
theorem m_next118 {m x : Nat} {t r e : Nat → Nat} (hm : m ≤ 4) (hx : x < 81) (hr : RI r e) (hv : vl r e x = true) : ∀ (k f i : Nat) (ν : Nm), i + k = 4 → k < f → WM m t r e ν → gi ν 324 m = nI x → ∃ ν2, Md_isNext_118 f (nI m) (nI (4 * m)) (nI (byA r e x)) (nI i) ν = some (true, ν2) ∧ (∀ c, i ≤ c → c < 4 → gi ν2 325 (4 * m + 4 + c) = nI (nr r e x c) ∧ gi ν2 326 (4 * m + 4 + c) = nI (ne r e x c)) ∧ (∀ q j, ¬ ((q = 325 ∨ q = 326) ∧ 4 * m + 4 + i ≤ j) → gi ν2 q j = gi ν q j) ∧ ∀ q j, gl ν2 q j = gl ν q j := by
  have hby := by_le hr hv
  intro k
  induction k with
  | zero =>
    intro f i ν hi hf _ _
    obtain ⟨f, rfl⟩ := fsucc hf
    exact ⟨ν, by rw [Md_isNext_118, if_pos (by rw [show (4 : Int32) = nI 4 from rfl, nI_le' (by omega) (by omega)]; omega)], fun c _ _ => by omega, fun _ _ _ => rfl, fun _ _ => rfl⟩
  | succ k ih =>
    intro f i ν hi hf hW hC
    obtain ⟨f, rfl⟩ := fsucc hf
    have i4 : i < 4 := by omega
    have hb := bn_le hr hv i4
    have hri := (hr i i4).1
    have hmul : bn e x i * byA r e x ≤ 2 * 3840 := Nat.mul_le_mul hb.1 hby
    have eb : gi ν 326 (4 * m + i) + nI (dg x i) = nI (bn e x i) := by rw [(hW.1 i i4).2, nI_add]; rfl
    have e3 : nI i + 1 = nI (i + 1) := nI_add i 1
    have ec : Md_cut (gi ν 325 (4 * m + i) - nI (bn e x i) * nI (byA r e x)).toInt64 0 639936 = some (nI (nr r e x i)) := by
      rw [(hW.1 i i4).1, nI_mul, cut_sub hri (by omega)]; unfold nr; rw [Nat.mul_comm (bn e x i)]
    have e4 : nI (4 * m) + 4 + nI i = nI (4 * m + 4 + i) := by rw [show nI (4 * m) + 4 = nI (4 * m + 4) from nI_add _ 4, nI_add]
    rw [Md_isNext_118, if_neg (by rw [show (4 : Int32) = nI 4 from rfl, nI_le' (by omega) (by omega)]; omega), e4, nI_add (4 * m) i, inb_nI (show 4 * m + i < 2 ^ 31 by omega), inb_nI (show m < 2 ^ 31 by omega), inb_nI (show 4 * m + 4 + i < 2 ^ 31 by omega), nI_clamp (show 4 * m + i < 2 ^ 31 by omega), nI_clamp (show m < 2 ^ 31 by omega), nI_clamp (show 4 * m + 4 + i < 2 ^ 31 by omega)]
    simp only [dT (show 4 * m + i < 24 by omega), dT (show m < 6 by omega), dT (show 4 * m + 4 + i < 24 by omega), if_true]
    rw [hC, dgO x hx i i4, Option.bind_some, eb, ec, Option.bind_some, gi_si_s]
    have hnr : nr r e x i ≤ 3840 := by unfold nr; omega
    have z1 : (nI (nr r e x i) = 0) = (nr r e x i = 0) := nI_eq' (b := 0) (by omega) (by decide)
    simp only [z1]
    unfold Md_isNext_210
    rw [inb_nI (show 4 * m + 4 + i < 2 ^ 31 by omega), nI_clamp (show 4 * m + 4 + i < 2 ^ 31 by omega)]
    simp only [dT (show 4 * m + 4 + i < 24 by omega), if_true]
    rw [e3]
    have step : ∃ ν2, Md_isNext_118 f (nI m) (nI (4 * m)) (nI (byA r e x)) (nI (i + 1)) (si (si ν 325 (4 * m + 4 + i) (nI (nr r e x i))) 326 (4 * m + 4 + i) (nI (ne r e x i))) = some (true, ν2) ∧ (∀ c, i ≤ c → c < 4 → gi ν2 325 (4 * m + 4 + c) = nI (nr r e x c) ∧ gi ν2 326 (4 * m + 4 + c) = nI (ne r e x c)) ∧ (∀ q j, ¬ ((q = 325 ∨ q = 326) ∧ 4 * m + 4 + i ≤ j) → gi ν2 q j = gi ν q j) ∧ ∀ q j, gl ν2 q j = gl ν q j := by
      obtain ⟨ν2, p1, p2, p4, p5⟩ := ih f (i + 1) (si (si ν 325 (4 * m + 4 + i) (nI (nr r e x i))) 326 (4 * m + 4 + i) (nI (ne r e x i))) (by omega) (by omega) ⟨fun c hc => ⟨by rw [gi_si_q _ _ _ _ (by omega), gi_si_j _ _ _ (by omega)]; exact (hW.1 c hc).1, by rw [gi_si_j _ _ _ (by omega), gi_si_q _ _ _ _ (by omega)]; exact (hW.1 c hc).2⟩, fun j hj => by rw [gi_si_q _ _ _ _ (by omega), gi_si_q _ _ _ _ (by omega)]; exact hW.2 j hj⟩ (by rw [gi_si_q _ _ _ _ (by omega), gi_si_q _ _ _ _ (by omega)]; exact hC)
      refine ⟨ν2, p1, fun c c1 c2 => ?_, fun q j hq => by rw [p4 q j (by omega), gi_si, if_neg (by omega), gi_si, if_neg (by omega)], fun q j => by rw [p5, gl_si, gl_si]⟩
      by_cases z : c = i
      · subst z
        rw [p4 _ _ (by omega), p4 _ _ (by omega), gi_si_s, gi_si_q _ _ _ _ (by omega), gi_si_s]
        exact ⟨rfl, rfl⟩
      · exact p2 c (by omega) c2
    by_cases z : nr r e x i = 0
    · have ez : ne r e x i = 0 := by unfold ne; rw [if_pos z]
      rw [if_neg (by simp [z])]
      rw [ez] at step
      exact step
    · have ez : ne r e x i = bn e x i := by unfold ne; rw [if_neg z]
      rw [if_pos z]
      rw [ez] at step
      exact step
theorem m_isNext {m x : Nat} {t r e : Nat → Nat} (hm : m ≤ 4) (hx : x < 81) (hr : RI r e) (hv : vl r e x = true) {ν : Nm} (hW : WM m t r e ν) (hC : gi ν 324 m = nI x) : ∃ ν2, Md_isNext (nI m) ν = some (decide (byA r e x ≠ 0), ν2) ∧ (byA r e x ≠ 0 → WM (m + 1) (upn t (m + 1) (t m + byA r e x)) (nr r e x) (ne r e x) ν2) ∧ (∀ q j, ¬ ((q = 325 ∨ q = 326) ∧ 4 * m + 4 ≤ j) → ¬ (q = 323 ∧ j = m + 1) → gi ν2 q j = gi ν q j) ∧ ∀ q j, gl ν2 q j = gl ν q j := by
  have e1 := m_next11 hm hx hr hv hW hC 4 FU 0 0 (by omega) (by unfold FU; omega) (by omega)
  have e2 : Md_isNext (nI m) ν = Md_isNext_11 FU (nI m) (nI (4 * m)) (nI (mil0 0)) (nI 0) ν := by
    unfold Md_isNext
    rw [show (4 : Int32) * nI m = nI (4 * m) from nI_mul 4 m]; rfl
  rw [e2, e1]
  show ∃ ν2, (if byA r e x ≠ 0 then Md_isNext_118 FU (nI m) (nI (4 * m)) (nI (byA r e x)) 0 (si ν 323 (m + 1) (nI (t m) + nI (byA r e x))) else some (false, ν)) = _ ∧ _
  by_cases q : byA r e x ≠ 0
  · rw [if_pos q, decide_eq_true q, nI_add]
    obtain ⟨ν2, p1, p2, p3, p4⟩ := m_next118 (t := t) hm hx hr hv 4 FU 0 (si ν 323 (m + 1) (nI (t m + byA r e x))) (by omega) (by unfold FU; omega) ⟨fun c hc => ⟨by rw [gi_si_q _ _ _ _ (by omega)]; exact (hW.1 c hc).1, by rw [gi_si_q _ _ _ _ (by omega)]; exact (hW.1 c hc).2⟩, fun j hj => by rw [gi_si_j _ _ _ (by omega)]; exact hW.2 j hj⟩ (by rw [gi_si_q _ _ _ _ (by omega)]; exact hC)
    refine ⟨ν2, p1, fun _ => ⟨fun c hc => ?_, fun j hj => ?_⟩, fun z j h1 h2 => by rw [p3 z j (by omega), gi_si, if_neg h2], fun z j => by rw [p4, gl_si]⟩
    · rw [show 4 * (m + 1) + c = 4 * m + 4 + c by omega]; exact p2 c (by omega) hc
    · by_cases z : j = m + 1
      · subst z; rw [upn_s, p3 _ _ (by omega), gi_si_s]
      · rw [upn_n _ _ z, p3 _ _ (by omega), gi_si_j _ _ _ z]; exact hW.2 j (by omega)
  · rw [if_neg q, decide_eq_false q]
    exact ⟨ν, rfl, fun z => absurd z q, fun _ _ _ _ => rfl, fun _ _ => rfl⟩

/-! Crews: the model's tables. -/
/-- games leave all but their own cells -/
def fg (q j : Nat) : Prop := (323 ≤ q ∧ q ≤ 328) ∨ q = 331 ∨ q = 332
theorem MR_si {a : Nat → Nat} {ν0 ν : Nm} (h : MR a ν0 ν) {q j : Nat} (v : Int32) (hq : 329 ≤ q) : MR a ν0 (si ν q j v) :=
  ⟨MX_keep h.1 (fun k => gi_si_q _ _ _ _ (by omega)), fun s h1 h3 => by
    rcases h.2.1 s h1 h3 with z | ⟨P, z1, z2⟩
    · exact Or.inl (by rw [gi_si_q _ _ _ _ (by omega)]; exact z)
    · exact Or.inr ⟨P, fun k hk => ⟨by rw [gi_si_q _ _ _ _ (by omega)]; exact (z1 k hk).1, (z1 k hk).2⟩, by rw [gi_si_q _ _ _ _ (by omega)]; exact z2⟩, Fr_si h.2.2 _ (Or.inl (by omega))⟩
/-- what taking a cord comes to, by the table x -/
def tkM (a : Nat → Nat) (v x code c : Nat) (ν : Nm) : Int32 := if gvB a (hb (code + 4 ^ c) 1 % 2 ^ a 0) v = true then 1 else -(gi ν x (tnc (code + 4 ^ c)))
theorem m_taken {a : Nat → Nat} {ν0 ν : Nm} (h : MR a ν0 ν) (hw : WF a) {v : Nat} (v2 : v ≤ 15360) {code c x : Nat} (hc : code < 256) (h4 : c < 4) (hd : dc code c = 0) (hx : x = 331 ∨ x = 332) : ∃ ν2, Md_takenBy (nI code) (nI c) (nI v) x ν = some (tkM a v x code c ν, ν2) ∧ MR a ν0 ν2 ∧ Fr (fun q _ => 323 ≤ q ∧ q ≤ 328) ν ν2 := by
  obtain ⟨e1, e2⟩ := cf3 code hc c h4 hd
  obtain ⟨x1, x2, x3, x4, x5⟩ := cf3b code hc c h4 hd
  obtain ⟨t1, t2⟩ := cf2 (code + 4 ^ c) e2
  obtain ⟨ν1, p1, p2, p3⟩ := m_givenG h hw (s := hb (code + 4 ^ c) 1) (v := v) (by omega) x3 v2
  refine ⟨ν1, ?_, p2, p3⟩
  unfold Md_takenBy tkM
  rw [e1, show (1 : Int32) = nI 1 from rfl, cf1 _ e2 1 (by omega), Option.bind_some, p1, Option.bind_some]
  simp only []
  rw [t1, Option.bind_some, inb_nI (by omega), nI_clamp (by omega), if_pos (decide_eq_true t2), p3.1 _ _ (by omega)]
  cases gvB a (hb (code + 4 ^ c) 1 % 2 ^ a 0) v <;> rfl
/-- the model's loop along the cords -/
def bo (tk : Nat → Int32) (free : Nat → Bool) : Nat → Nat → Int32 → Int32
  | 0, _, b => if ¬ b = 1000000 then b else 0
  | k + 1, c, b => bo tk free k (c + 1) (if free c then (if b = 1000000 then tk c else if tk c ≤ b then b else tk c) else b)
theorem m_best {a : Nat → Nat} {ν0 : Nm} (hw : WF a) {v : Nat} (v2 : v ≤ 15360) {code x : Nat} (hc : code < 256) (hx : x = 331 ∨ x = 332) (ν : Nm) : ∀ (k f c : Nat) (b : Int32) (ν1 : Nm), c + k = a 0 → k < f → MR a ν0 ν1 → Fr (fun q _ => 323 ≤ q ∧ q ≤ 328) ν ν1 → ∃ ν2, Md_bestOf_8 f (nI code) (nI v) x b (nI c) ν1 = some (bo (fun c => tkM a v x code c ν) (fun c => decide (dc code c = 0)) k c b, ν2) ∧ MR a ν0 ν2 ∧ Fr (fun q _ => 323 ≤ q ∧ q ≤ 328) ν ν2 := by
  have hb := wb hw
  intro k
  induction k with
  | zero =>
    intro f c b ν1 hck hf h hF
    obtain ⟨f, rfl⟩ := fsucc hf
    refine ⟨ν1, ?_, h, hF⟩
    rw [Md_bestOf_8, mr (MR_M h) (by decide) (by decide), if_pos (by rw [nI_le' (by omega) (by omega)]; omega)]
    show _ = some (if ¬ b = 1000000 then b else 0, ν1)
    split <;> rfl
  | succ k ih =>
    intro f c b ν1 hck hf h hF
    obtain ⟨f, rfl⟩ := fsucc hf
    have h4 : c < 4 := by omega
    have hdl : dc code c < 4 := Nat.mod_lt _ (by decide)
    rw [Md_bestOf_8, mr (MR_M h) (by decide) (by decide), if_neg (by rw [nI_le' (by omega) (by omega)]; omega), cf4 code hc c h4]
    have z : (nI (dc code c) = 0) = (dc code c = 0) := nI_eq' (b := 0) (by omega) (by decide)
    simp only [z]
    unfold Md_bestOf_59 Md_bestOf_66 Md_bestOf_68
    rw [show nI c + 1 = nI (c + 1) from nI_add c 1]
    show ∃ ν2, _ = some (bo _ _ k (c + 1) (if decide (dc code c = 0) = true then (if b = 1000000 then tkM a v x code c ν else if tkM a v x code c ν ≤ b then b else tkM a v x code c ν) else b), ν2) ∧ _
    by_cases q : dc code c = 0
    · obtain ⟨ν2, p1, p2, p3⟩ := m_taken h hw v2 hc h4 q hx
      have et : tkM a v x code c ν1 = tkM a v x code c ν := by
        unfold tkM
        rw [hF.1 _ _ (by omega)]
      rw [if_pos q, decide_eq_true q, if_pos rfl, p1, Option.bind_some, et]
      simp only []
      have hF2 := Fr_tr hF p3
      by_cases q2 : b = 1000000
      · rw [if_pos q2, if_pos q2]; exact ih f (c + 1) _ ν2 (by omega) (by omega) p2 hF2
      · rw [if_neg q2, if_neg q2]
        by_cases q3 : tkM a v x code c ν ≤ b
        · rw [if_pos q3, if_pos q3]; exact ih f (c + 1) _ ν2 (by omega) (by omega) p2 hF2
        · rw [if_neg q3, if_neg q3]; exact ih f (c + 1) _ ν2 (by omega) (by omega) p2 hF2
    · rw [if_neg q, decide_eq_false q, if_neg (by simp)]
      exact ih f (c + 1) _ ν1 (by omega) (by omega) h hF
theorem v3_big {x : Int32} (h : v3 x) : ¬ x = 1000000 := by rcases h with rfl | rfl | rfl <;> decide
theorem bo_v {tk : Nat → Int32} {free : Nat → Bool} (h : ∀ c, free c = true → v3 (tk c)) : ∀ (k c : Nat) (b : Int32), v3 b → bo tk free k c b = vL tk free k c b := by
  intro k
  induction k with
  | zero => intro c b hb; show (if ¬ b = 1000000 then b else 0) = b; rw [if_pos (v3_big hb)]
  | succ k ih =>
    intro c b hb
    show bo tk free k (c + 1) _ = vL tk free k (c + 1) _
    have e : (if free c = true then (if b = 1000000 then tk c else if tk c ≤ b then b else tk c) else b) = (if free c = true then imax b (tk c) else b) := by
      by_cases q : free c = true
      · rw [if_pos q, if_pos q, if_neg (v3_big hb)]
        unfold imax
        by_cases q2 : tk c ≤ b
        · rw [if_pos q2, if_neg (Int32.not_lt.mpr q2)]
        · rw [if_neg q2, if_pos (Int32.not_le.mp q2)]
      · rw [if_neg q, if_neg q]
    rw [e]
    refine ih (c + 1) _ ?_
    by_cases q : free c = true
    · rw [if_pos q]; exact v3_max hb (h c q)
    · rw [if_neg q]; exact hb
theorem bo_0 {tk : Nat → Int32} {free : Nat → Bool} (h : ∀ c, free c = true → v3 (tk c)) : ∀ (k c : Nat), bo tk free k c 1000000 = (if ∃ d, d < k ∧ free (c + d) = true then vL tk free k c (-1) else 0) := by
  intro k
  induction k with
  | zero => intro c; rw [if_neg (by rintro ⟨d, d1, _⟩; omega)]; rfl
  | succ k ih =>
    intro c
    show bo tk free k (c + 1) (if free c = true then (if (1000000 : Int32) = 1000000 then tk c else _) else 1000000) = _
    by_cases q : free c = true
    · rw [if_pos q, if_pos rfl, if_pos ⟨0, by omega, q⟩, bo_v h k (c + 1) _ (h c q)]
      show _ = vL tk free k (c + 1) (if free c = true then imax (-1) (tk c) else -1)
      rw [if_pos q]
      congr 1
      rcases h c q with z | z | z <;> rw [z] <;> rfl
    · rw [if_neg q, ih (c + 1)]
      show _ = if _ then vL tk free k (c + 1) (if free c = true then imax (-1) (tk c) else -1) else 0
      rw [if_neg q]
      by_cases e : ∃ d, d < k ∧ free (c + 1 + d) = true
      · rw [if_pos e, if_pos]
        obtain ⟨d, d1, d2⟩ := e
        exact ⟨d + 1, by omega, by rw [show c + (d + 1) = c + 1 + d by omega]; exact d2⟩
      · rw [if_neg e, if_neg]
        rintro ⟨d, d1, d2⟩
        by_cases d0 : d = 0
        · subst d0; exact q d2
        · exact e ⟨d - 1, by omega, by rw [show c + 1 + (d - 1) = c + d by omega]; exact d2⟩
theorem vL_ext {tk tk2 : Nat → Int32} {free free2 : Nat → Bool} : ∀ (k c : Nat) (b : Int32), (∀ d, c ≤ d → d < c + k → free d = free2 d ∧ (free d = true → tk d = tk2 d)) → vL tk free k c b = vL tk2 free2 k c b := by
  intro k
  induction k with
  | zero => intro c b _; rfl
  | succ k ih =>
    intro c b h
    obtain ⟨h1, h2⟩ := h c (by omega) (by omega)
    show vL tk free k (c + 1) (if free c = true then imax b (tk c) else b) = vL tk2 free2 k (c + 1) (if free2 c = true then imax b (tk2 c) else b)
    have e : (if free c = true then imax b (tk c) else b) = (if free2 c = true then imax b (tk2 c) else b) := by
      rw [← h1]
      by_cases q : free c = true
      · rw [if_pos q, if_pos q, h2 q]
      · rw [if_neg q, if_neg q]
    rw [e]
    exact ih (c + 1) _ (fun d d1 d2 => h d (by omega) (by omega))
theorem vL_idle {tk : Nat → Int32} {free : Nat → Bool} : ∀ (k c : Nat) (b : Int32), (∀ d, c ≤ d → d < c + k → free d = false) → vL tk free k c b = b := by
  intro k
  induction k with
  | zero => intro c b _; rfl
  | succ k ih =>
    intro c b h
    show vL tk free k (c + 1) (if free c = true then imax b (tk c) else b) = b
    rw [h c (by omega) (by omega), if_neg (by simp)]
    exact ih (c + 1) b (fun d d1 d2 => h d (by omega) (by omega))
theorem vL_add {tk : Nat → Int32} {free : Nat → Bool} : ∀ (k m c : Nat) (b : Int32), vL tk free (k + m) c b = vL tk free m (c + k) (vL tk free k c b) := by
  intro k
  induction k with
  | zero => intro m c b; rw [Nat.zero_add]; rfl
  | succ k ih =>
    intro m c b
    rw [show k + 1 + m = (k + m) + 1 by omega]
    show vL tk free (k + m) (c + 1) _ = vL tk free m (c + (k + 1)) (vL tk free k (c + 1) _)
    rw [ih m (c + 1), show c + 1 + k = c + (k + 1) by omega]
/-- positions that a run can come to -/
def rel (n code : Nat) : Prop := code < 256 ∧ ic code = true ∧ hb code 1 < 2 ^ n ∧ hb code 2 < 2 ^ n
theorem rel_next {n code c : Nat} (hn : n ≤ 4) (h : rel n code) (hc : c < n) (hd : dc code c = 0) : rel n (tnc (code + 4 ^ c)) ∧ nh (tnc (code + 4 ^ c)) = nh code + 1 := by
  obtain ⟨h1, h2, h3, h4⟩ := h
  obtain ⟨x1, x2, x3, x4, x5⟩ := cf3b code h1 c (by omega) hd
  obtain ⟨y1, y2⟩ := cf3c code h1 h2 c (by omega) hd
  have h256 := (cf3 code h1 c (by omega) hd).2
  exact ⟨⟨(cf2 _ h256).2, y1, by rw [x4]; exact h4, by rw [x5]; exact cf9 n (by omega) code h1 h3 c hc⟩, y2⟩
/-- a table holds what positions come to, where at least T cords are held -/
def GTb (n T : Nat) (p q : Nat → Bool) (x : Nat) (ν : Nm) : Prop := ∀ code, rel n code → T ≤ nh code → gi ν x code = cV n (n - nh code) p q code
theorem m_bestV {a : Nat → Nat} {ν0 ν : Nm} (h : MR a ν0 ν) (hw : WF a) {v : Nat} (v2 : v ≤ 15360) {code x T : Nat} (hx : x = 331 ∨ x = 332) {q : Nat → Bool} (hr : rel (a 0) code) (hT : nh code = T) (hG : GTb (a 0) (T + 1) q (gvP a v) x ν) : ∃ ν2, Md_bestOf (nI code) (nI v) x ν = some (cV (a 0) (a 0 - nh code) (gvP a v) q code, ν2) ∧ MR a ν0 ν2 ∧ Fr (fun q _ => 323 ≤ q ∧ q ≤ 328) ν ν2 := by
  have hb4 := (wb hw).1
  obtain ⟨ν2, p1, p2, p3⟩ := m_best hw v2 hr.1 hx ν (a 0) FU 0 1000000 ν (by omega) (by unfold FU; omega) h (Fr_rfl _ _)
  refine ⟨ν2, ?_, p2, p3⟩
  obtain ⟨h1, h2, h3, h4⟩ := id hr
  have hnh := (cf7 (a 0) (by omega) code h1 h2 h3 h4).2
  have key : ∀ c, c < a 0 → dc code c = 0 → tkM a v x code c ν = (if gvP a v (hb code 1 ||| 2 ^ c) = true then 1 else -(cV (a 0) (a 0 - nh code - 1) q (gvP a v) (tnc (code + 4 ^ c)))) := by
    intro c hc hd
    obtain ⟨x1, x2, x3, x4, x5⟩ := cf3b code h1 c (by omega) hd
    obtain ⟨r1, r2⟩ := rel_next hb4 hr hc hd
    have hlt := cf9 (a 0) (by omega) code h1 h3 c hc
    unfold tkM
    rw [x1, Nat.mod_eq_of_lt hlt, hG _ r1 (by omega), r2, show a 0 - nh code - 1 = a 0 - (nh code + 1) by omega]
    have eg : gvP a v (hb code 1 ||| 2 ^ c) = gvB a (hb code 1 ||| 2 ^ c) v := by unfold gvP; rw [decide_eq_true (by rw [← x1]; exact x2), Bool.true_and]
    rw [eg]
  have p1' : Md_bestOf (nI code) (nI v) x ν = some (bo (fun c => tkM a v x code c ν) (fun c => decide (dc code c = 0)) (a 0) 0 1000000, ν2) := p1
  rw [p1']
  -- only cords that there are count
  have ebo : bo (fun c => tkM a v x code c ν) (fun c => decide (dc code c = 0)) (a 0) 0 1000000 = bo (fun c => if c < a 0 ∧ dc code c = 0 then tkM a v x code c ν else 0) (fun c => decide (dc code c = 0)) (a 0) 0 1000000 := by
    have gen : ∀ (k c : Nat) (b : Int32), c + k ≤ a 0 → bo (fun c => tkM a v x code c ν) (fun c => decide (dc code c = 0)) k c b = bo (fun c => if c < a 0 ∧ dc code c = 0 then tkM a v x code c ν else 0) (fun c => decide (dc code c = 0)) k c b := by
      intro k
      induction k with
      | zero => intro c b _; rfl
      | succ k ih =>
        intro c b hck
        show bo _ _ k (c + 1) (if decide (dc code c = 0) = true then (if b = 1000000 then tkM a v x code c ν else if tkM a v x code c ν ≤ b then b else tkM a v x code c ν) else b) = bo _ _ k (c + 1) (if decide (dc code c = 0) = true then (if b = 1000000 then (if c < a 0 ∧ dc code c = 0 then tkM a v x code c ν else 0) else if (if c < a 0 ∧ dc code c = 0 then tkM a v x code c ν else 0) ≤ b then b else (if c < a 0 ∧ dc code c = 0 then tkM a v x code c ν else 0)) else b)
        have e : (if decide (dc code c = 0) = true then (if b = 1000000 then tkM a v x code c ν else if tkM a v x code c ν ≤ b then b else tkM a v x code c ν) else b) = (if decide (dc code c = 0) = true then (if b = 1000000 then (if c < a 0 ∧ dc code c = 0 then tkM a v x code c ν else 0) else if (if c < a 0 ∧ dc code c = 0 then tkM a v x code c ν else 0) ≤ b then b else (if c < a 0 ∧ dc code c = 0 then tkM a v x code c ν else 0)) else b) := by
          by_cases z : dc code c = 0
          · rw [if_pos (show c < a 0 ∧ dc code c = 0 from ⟨by omega, z⟩)]
          · rw [decide_eq_false z, if_neg (by simp), if_neg (by simp)]
        rw [e]
        exact ih (c + 1) _ (by omega)
    exact gen (a 0) 0 1000000 (by omega)
  have hv3 : ∀ c, (decide (dc code c = 0)) = true → v3 ((fun c => if c < a 0 ∧ dc code c = 0 then tkM a v x code c ν else 0) c) := by
    intro c hc
    show v3 (if c < a 0 ∧ dc code c = 0 then tkM a v x code c ν else 0)
    by_cases z : c < a 0 ∧ dc code c = 0
    · rw [if_pos z, key c z.1 z.2]
      split
      · exact Or.inr (Or.inr rfl)
      · exact v3_neg (cV_v3 _ _ _ _)
    · rw [if_neg z]; exact Or.inr (Or.inl rfl)
  rw [ebo, bo_0 hv3]
  congr 2
  by_cases e : nh code = a 0
  · rw [if_neg, e, Nat.sub_self]; rfl
    rintro ⟨d, d1, d2⟩
    have e0 := (cf10 (a 0) (by omega) code h1 h2 h3 h4).mpr e
    have := ((cf8 (a 0) (by omega) code h1).2 d (by omega)).mpr ⟨d1, by rw [Nat.zero_add] at d2; exact of_decide_eq_true d2⟩
    rw [e0] at this
    simp at this
  · obtain ⟨k, hk⟩ : ∃ k, a 0 - nh code = k + 1 := ⟨a 0 - nh code - 1, by omega⟩
    have e0 : ¬ frs (a 0) code = 0 := fun z => e ((cf10 (a 0) (by omega) code h1 h2 h3 h4).mp z)
    rw [if_pos, hk]
    · show _ = vL (fun c => if gvP a v (hb code 1 ||| 2 ^ c) = true then 1 else -(cV (a 0) k q (gvP a v) (tnc (code + 4 ^ c)))) (fun c => decide (c < a 0 ∧ dc code c = 0)) 4 0 (-1)
      have e4 := vL_add (tk := fun c => if gvP a v (hb code 1 ||| 2 ^ c) = true then 1 else -(cV (a 0) k q (gvP a v) (tnc (code + 4 ^ c)))) (free := fun c => decide (c < a 0 ∧ dc code c = 0)) (a 0) (4 - a 0) 0 (-1)
      rw [show a 0 + (4 - a 0) = 4 by omega] at e4
      rw [e4, vL_idle (4 - a 0) (0 + a 0) _ (fun d d1 d2 => decide_eq_false (by omega))]
      refine vL_ext (a 0) 0 (-1) (fun d d1 d2 => ⟨?_, fun hfree => ?_⟩)
      · by_cases z : dc code d = 0
        · rw [decide_eq_true z, decide_eq_true ⟨by omega, z⟩]
        · rw [decide_eq_false z, decide_eq_false (fun y => z y.2)]
      · have z := of_decide_eq_true hfree
        rw [if_pos ⟨by omega, z⟩, key d (by omega) z, show a 0 - nh code - 1 = k by omega]
    · apply Decidable.byContradiction
      intro w
      apply e0
      have bits : ∀ c, c < 4 → ¬ (frs (a 0) code / 2 ^ c % 2 = 1) := fun c hc z => by
        have := ((cf8 (a 0) (by omega) code h1).2 c hc).mp z
        exact w ⟨c, this.1, by rw [Nat.zero_add]; exact decide_eq_true this.2⟩
      have h16 := (cf8 (a 0) (by omega) code h1).1
      have b0 := bits 0 (by omega)
      have b1 := bits 1 (by omega)
      have b2 := bits 2 (by omega)
      have b3 := bits 3 (by omega)
      simp only [Nat.pow_zero, Nat.reducePow, Nat.div_one] at b0 b1 b2 b3
      omega

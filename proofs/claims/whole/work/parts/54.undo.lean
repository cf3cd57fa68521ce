/-! The class takes back; images. -/
/-- Pit p in ν2 is Pit s in ν -/
def PCp (p s : Nat) (ν2 ν : Nm) : Prop := gi ν2 p 0 = gi ν s 0 ∧ gi ν2 p 1 = gi ν s 1 ∧ gi ν2 p 2 = gi ν s 2 ∧ gi ν2 p 3 = gi ν s 3 ∧ gi ν2 p 7 = gi ν s 7 ∧ (∀ c, c < 4 → gi ν2 (p + 1) c = gi ν (s + 1) c ∧ gi ν2 (p + 2) c = gi ν (s + 2) c) ∧ ∀ k, k < 30 → gi ν2 (p + 3) k = gi ν (s + 3) k
theorem pt_copy' (p s : Nat) (hd : p + 4 ≤ s ∨ s + 4 ≤ p) (ν : Nm) : ∃ ν2, Pt_copy p s ν = some ν2 ∧ (∀ q j, q < p ∨ p + 4 ≤ q → gi ν2 q j = gi ν q j) ∧ (∀ q j, gl ν2 q j = gl ν q j) ∧ PCp p s ν2 ν := by
  obtain ⟨ν2, h1, h2, h3, h4⟩ := pt_copy p s hd ν
  exact ⟨ν2, h1, h2, h3, h4⟩
theorem PCp_src {p s : Nat} {ν3 ν2 ν : Nm} (h : PCp p s ν3 ν2) (k : ∀ q j, s ≤ q → q < s + 4 → gi ν2 q j = gi ν q j) : PCp p s ν3 ν := by
  obtain ⟨h1, h2, h3, h4, h5, h6, h7⟩ := h
  refine ⟨by rw [h1, k _ _ (by omega) (by omega)], by rw [h2, k _ _ (by omega) (by omega)], by rw [h3, k _ _ (by omega) (by omega)], by rw [h4, k _ _ (by omega) (by omega)], by rw [h5, k _ _ (by omega) (by omega)], fun c hc => ⟨by rw [(h6 c hc).1, k _ _ (by omega) (by omega)], by rw [(h6 c hc).2, k _ _ (by omega) (by omega)]⟩, fun i hi => by rw [h7 i hi, k _ _ (by omega) (by omega)]⟩
theorem PCp_dst {p s : Nat} {ν3 ν2 ν : Nm} (h : PCp p s ν2 ν) (k : ∀ q j, p ≤ q → q < p + 4 → gi ν3 q j = gi ν2 q j) : PCp p s ν3 ν := by
  obtain ⟨h1, h2, h3, h4, h5, h6, h7⟩ := h
  refine ⟨by rw [k _ _ (by omega) (by omega), h1], by rw [k _ _ (by omega) (by omega), h2], by rw [k _ _ (by omega) (by omega), h3], by rw [k _ _ (by omega) (by omega), h4], by rw [k _ _ (by omega) (by omega), h5], fun c hc => ⟨by rw [k _ _ (by omega) (by omega), (h6 c hc).1], by rw [k _ _ (by omega) (by omega), (h6 c hc).2]⟩, fun i hi => by rw [k _ _ (by omega) (by omega), h7 i hi]⟩
theorem SX1_PC {p s x : Nat} {a : Nat → Nat} {ν ν2 : Nm} (h : SX1 s x a ν) (k : PCp p s ν2 ν) : SX1 p x a ν2 := by
  obtain ⟨h1, h2, h3, h4, h5, h6, h7⟩ := h
  obtain ⟨k1, k2, k3, k4, k5, k6, k7⟩ := k
  exact ⟨by rw [k1]; exact h1, by rw [k2]; exact h2, by rw [k3]; exact h3, by rw [k4]; exact h4, by rw [k5]; exact h5, fun c hc => ⟨by rw [(k6 c hc).1]; exact (h6 c hc).1, by rw [(k6 c hc).2]; exact (h6 c hc).2⟩, fun i hi => by rw [k7 i hi]; exact h7 i hi⟩
/-- the plain places, kind by kind -/
theorem plCases : ∀ q ∈ plL, q = (0, 1, 0) ∨ q = (4, 5, 2) ∨ q = (8, 1, 1) ∨ q = (9, 1, 2) ∨ q = (10, 1, 3) ∨ q = (11, 1, 7) ∨ (∃ c, c < 4 ∧ q = (12 + 2 * c, 2, c)) ∨ (∃ c, c < 4 ∧ q = (13 + 2 * c, 3, c)) ∨ (∃ c, c < 30 ∧ q = (1355 + c, 4, c)) ∨ ((q.1 = 1 ∧ q.2 = (0, 5)) ∨ (q.1 = 2 ∧ q.2 = (0, 6)) ∨ (q.1 = 28 ∧ q.2 = (0, 4)) ∨ (q.1 = 5 ∧ q.2 = (129, 1)) ∨ (q.1 = 6 ∧ q.2 = (131, 1)) ∨ (q.1 = 7 ∧ q.2 = (133, 1)) ∨ (∃ c, c < 4 ∧ q = (20 + 2 * c, 127, c)) ∨ (∃ c, c < 4 ∧ q = (21 + 2 * c, 128, c)) ∨ (∃ c, c < 4 ∧ q = (29 + c, 130, c))) := by decide +kernel
theorem plOther : ∀ q ∈ plL, (q.1 = 0 ∨ q.1 = 4 ∨ (8 ≤ q.1 ∧ q.1 < 20) ∨ 1355 ≤ q.1) ∨ ((q.1 < 8 ∨ (20 ≤ q.1 ∧ q.1 < 1355)) ∧ q.1 ≠ 4 ∧ q.1 ≠ 0 ∧ (q.2.1 = 0 ∨ 127 ≤ q.2.1)) := by decide +kernel
theorem c_pop {a : Nat → Nat} {ν0 ν : Nm} (h : C1 a ν0 ν) (hw : WF a) (h1 : 1 ≤ a 4) : ∃ ν2, St_pop 6 2 ν = some (true, ν2) ∧ C1 (upn (un1 a) 0 (a (unx a))) ν0 ν2 := by
  have hb := wb hw
  have h30 := hb.2.2.2.2.2.1
  have r := cr h
  obtain ⟨⟨g1, g2, ⟨g3, g34⟩, f, g5, g6, g7⟩, hF⟩ := id h
  have g6' : gi ν 6 1 = nI f := g6
  have e4 : gi ν 6 2 - 1 = nI (a 4 - 1) := by rw [r.2.2.2.2.1, show (1 : Int32) = nI 1 from rfl, nI_sub h1]
  have hat : (f + (a 4 - 1)) % 30 < 30 := Nat.mod_lt _ (by decide)
  obtain ⟨ν2, c0, c1, c2, c3⟩ := pt_copy' 2 (6 + 1 + 1 + 4 * ((f + (a 4 - 1)) % 30)) (by omega) (si ν 6 2 (nI (a 4 - 1)))
  have em : nI f + nI (a 4 - 1) - (nI f + nI (a 4 - 1)) / 30 * 30 = nI ((f + (a 4 - 1)) % 30) := by
    rw [nI_add, show (30 : Int32) = nI 30 from rfl, nI_mod (by omega) (by omega)]
  refine ⟨ν2, ?_, ?_, Fr_tr (Fr_si hF _ (Or.inl (by omega))) ⟨fun q j hq => c1 q j (by unfold fc at hq; omega), fun q j _ => c2 q j⟩⟩
  · unfold St_pop
    rw [if_pos (by rw [r.2.2.2.2.1, show (0 : Int32) = nI 0 from rfl, nI_eq' (by omega) (by omega)]; omega), e4, gi_si_j _ _ _ (by omega), gi_si_s, g6', em, inb_nI (by omega), nI_clamp (by omega), if_pos (by simp; omega), c0]
    rfl
  · have hs := g7 (a 4 - 1) (by omega)
    have hs2 : SX1 (6 + 1 + 1 + 4 * ((f + (a 4 - 1)) % 30)) (unx a) a (si ν 6 2 (nI (a 4 - 1))) := SX1_keep hs (fun q j k1 k2 => gi_si_q _ _ _ _ (by omega)) (fun _ _ _ => rfl)
    have hs3 := SX1_PC hs2 c3
    obtain ⟨t1, t2, t3, t4, t5, t6, t7⟩ := hs3
    have kk : ∀ q j, (q < 2 ∨ 6 ≤ q) → ¬ (q = 6 ∧ j = 2) → gi ν2 q j = gi ν q j := fun q j hq hn => by rw [c1 q j (by omega), gi_si, if_neg hn]
    have n : ∀ j, j ≠ 0 → upn (un1 a) 0 (a (unx a)) j = un1 a j := fun j hj => upn_n _ _ hj
    have nn : ∀ j, (j < 8 ∨ (20 ≤ j ∧ j < 1355)) → j ≠ 4 → j ≠ 0 → upn (un1 a) 0 (a (unx a)) j = a j := fun j h1 h2 h3 => by rw [n j h3, un1_low h1 h2]
    refine ⟨fun q hq => ?_, ?_, ⟨fun i hi => ?_, fun i hi => ?_⟩, f, g5, ?_, fun i hi => ?_⟩
    · rcases plOther q hq with hA | ⟨hB, hB4, hB0, hBc⟩
      · rcases plCases q hq with rfl | rfl | rfl | rfl | rfl | rfl | ⟨c, hc, rfl⟩ | ⟨c, hc, rfl⟩ | ⟨c, hc, rfl⟩ | hR
        · show gi ν2 2 0 = nI (upn (un1 a) 0 (a (unx a)) 0); rw [upn_s]; exact t1
        · show gi ν2 6 2 = nI (upn (un1 a) 0 (a (unx a)) 4); rw [n _ (by omega), un1_4, c1 _ _ (by omega), gi_si_s]
        · show gi ν2 2 1 = nI (upn (un1 a) 0 (a (unx a)) 8); rw [n _ (by omega), show (8 : Nat) = 8 + 0 from rfl, un1_k h30 h1 (by omega)]; exact t2
        · show gi ν2 2 2 = nI (upn (un1 a) 0 (a (unx a)) 9); rw [n _ (by omega), show (9 : Nat) = 8 + 1 from rfl, un1_k h30 h1 (by omega)]; exact t3
        · show gi ν2 2 3 = nI (upn (un1 a) 0 (a (unx a)) 10); rw [n _ (by omega), show (10 : Nat) = 8 + 2 from rfl, un1_k h30 h1 (by omega)]; exact t4
        · show gi ν2 2 7 = nI (upn (un1 a) 0 (a (unx a)) 11); rw [n _ (by omega), show (11 : Nat) = 8 + 3 from rfl, un1_k h30 h1 (by omega)]; exact t5
        · show gi ν2 3 c = nI (upn (un1 a) 0 (a (unx a)) (12 + 2 * c)); rw [n _ (by omega), show 12 + 2 * c = 8 + (4 + 2 * c) by omega, un1_k h30 h1 (by omega), show unx a + 1 + (4 + 2 * c) = unx a + 5 + 2 * c by omega]; exact (t6 c hc).1
        · show gi ν2 4 c = nI (upn (un1 a) 0 (a (unx a)) (13 + 2 * c)); rw [n _ (by omega), show 13 + 2 * c = 8 + (5 + 2 * c) by omega, un1_k h30 h1 (by omega), show unx a + 1 + (5 + 2 * c) = unx a + 6 + 2 * c by omega]; exact (t6 c hc).2
        · show gi ν2 5 c = nI (upn (un1 a) 0 (a (unx a)) (1355 + c)); rw [n _ (by omega), un1_b h30 h1 hc]; exact t7 c hc
        · exfalso
          rcases hR with ⟨e, _⟩ | ⟨e, _⟩ | ⟨e, _⟩ | ⟨e, _⟩ | ⟨e, _⟩ | ⟨e, _⟩ | ⟨c, hc, rfl⟩ | ⟨c, hc, rfl⟩ | ⟨c, hc, rfl⟩ <;> (try simp only [] at hA) <;> omega
      · rw [kk _ _ (by omega) (by omega), nn _ hB hB4 hB0]; exact g1 q hq
    · unfold RX; rw [kk _ _ (by omega) (by omega), nn _ (by omega) (by omega) (by omega)]; exact g2
    · rw [kk _ _ (by omega) (by omega), nn _ (by omega) (by omega) (by omega), nn _ (by omega) (by omega) (by omega)]; exact g3 i hi
    · rw [kk _ _ (by omega) (by omega), nn _ (by omega) (by omega) (by omega), nn _ (by omega) (by omega) (by omega)]; exact g34 i hi
    · rw [kk _ _ (by omega) (by omega)]; exact g6
    · rw [n _ (by omega), un1_4] at hi
      have hb2 : (f + i) % 30 < 30 := Nat.mod_lt _ (by decide)
      exact SX1_keep (g7 i (by omega)) (fun q j k1 k2 => kk q j (by omega) (by omega)) (fun k k1 k2 => nn k (by omega) (by omega) (by omega))
theorem upn_0_begin (a : Nat → Nat) {i v w : Nat} : upn (beginA (upn a 0 v) i) 0 w = upn (beginA a i) 0 w := by
  funext j
  by_cases e : j = 0
  · subst e; rw [upn_s, upn_s]
  · rw [upn_n _ _ e, upn_n _ _ e]
    unfold beginA
    by_cases e2 : j = 13 + 2 * i
    · subst e2; rw [upn_s, upn_s]
    · rw [upn_n _ _ e2, upn_n _ _ e2]
      by_cases e3 : j = 12 + 2 * i
      · subst e3; rw [upn_s, upn_s, upn_n _ _ (show 20 + 2 * i ≠ 0 by omega)]
      · rw [upn_n _ _ e3, upn_n _ _ e3, upn_n _ _ e]
theorem c_lay1 {a : Nat → Nat} {ν0 ν : Nm} {i : Nat} (h : C1 (upn a 0 i) ν0 ν) (h30 : a 4 ≤ 30) (hi : i < 4) : ∃ ν2, Pt_lay 2 (nI (a (20 + 2 * i))) ν = some ν2 ∧ C1 (upn (beginA a i) 0 (i + 1)) ν0 ν2 := by
  have e20 : upn a 0 i (20 + 2 * i) = a (20 + 2 * i) := upn_n _ _ (by omega)
  have h4 : upn a 0 i 4 ≤ 30 := by rw [upn_n _ _ (by omega)]; exact h30
  obtain ⟨ν1, p1, p2⟩ := c_new h h4 hi
  have r0 : gi ν 2 0 = nI i := by rw [(cr h).1, upn_s]
  have r1 : gi ν1 2 0 = nI i := by rw [(cr p2).1]; unfold beginA; rw [upn_n _ _ (by omega), upn_n _ _ (by omega), upn_s]
  have p3 := C1_pl p2 0 2 0 (by decide) (by omega) (by omega) (by unfold beginA; rw [upn_n _ _ (by omega), upn_n _ _ (by omega)]; exact h4) (i + 1)
  rw [upn_0_begin] at p3
  rw [e20] at p1
  refine ⟨_, ?_, p3⟩
  unfold Pt_lay
  rw [r0, if_neg (by rw [show (4 : Int32) = nI 4 from rfl, nI_le' (by omega) (by omega)]; omega), p1, Option.bind_some, r1, show (1 : Int32) = nI 1 from rfl, nI_add]
theorem c_lay {n : Nat} (hn : n ≤ 4) {ν0 : Nm} : ∀ (k f i : Nat) (a : Nat → Nat) (ν : Nm), i + k = n → k < f → a 4 ≤ 30 → C1 (upn a 0 i) ν0 ν → ∃ ν2, Fm_undo_44 f (nI n) (nI i) ν = some (nI (a 4), ν2) ∧ C1 (upn (layK k i a) 0 n) ν0 ν2 := by
  intro k
  induction k with
  | zero =>
    intro f i a ν hi hf h30 h
    obtain ⟨f, rfl⟩ := fsucc hf
    obtain rfl : i = n := by omega
    refine ⟨ν, ?_, h⟩
    rw [Fm_undo_44, if_pos (by rw [nI_le' (by omega) (by omega)]; omega)]
    unfold Fm_undo_79
    rw [(cr h).2.2.2.2.1, upn_n _ _ (by omega)]
  | succ k ih =>
    intro f i a ν hi hf h30 h
    obtain ⟨f, rfl⟩ := fsucc hf
    obtain ⟨ν1, p1, p2⟩ := c_lay1 h h30 (show i < 4 by omega)
    have e4 : beginA a i 4 = a 4 := by unfold beginA; rw [upn_n _ _ (by omega), upn_n _ _ (by omega)]
    obtain ⟨ν2, q1, q2⟩ := ih f (i + 1) (beginA a i) ν1 (by omega) (by omega) (by rw [e4]; exact h30) p2
    refine ⟨ν2, ?_, q2⟩
    rw [Fm_undo_44, if_neg (by rw [nI_le' (by omega) (by omega)]; omega), if_neg (by rw [show (4 : Int32) = nI 4 from rfl, nI_le' (by omega) (by omega)]; omega), inb_nI (by omega), nI_clamp (by omega), if_pos (by simp; omega), cr_min h (by omega), upn_n _ _ (show 20 + 2 * i ≠ 0 by omega), p1, Option.bind_some, show (1 : Int32) = nI 1 from rfl, nI_add, q1, e4]
theorem c_undo {a : Nat → Nat} {ν0 ν : Nm} (h : C1 a ν0 ν) (hw : WF a) (h1 : 1 ≤ a 4) : ∃ ν2, Fm_undo ν = some (nI (a 4 - 1), ν2) ∧ C1 (undoA a) ν0 ν2 := by
  have hb := wb hw
  obtain ⟨ho, -⟩ := un_steps hw h1
  obtain ⟨ν1, p1, p2⟩ := c_pop h hw h1
  obtain ⟨ν2, q1, q2⟩ := c_lay hb.1 (a 0 - a (unx a)) FU (a (unx a)) (un1 a) ν1 (by omega) (by unfold FU; omega) (by rw [un1_4]; omega) p2
  have e0 : upn (layK (a 0 - a (unx a)) (a (unx a)) (un1 a)) 0 (a 0) = undoA a := by
    funext j
    unfold undoA
    by_cases e : j = 0
    · subst e; rw [upn_s, lay_low _ _ _ (by omega), un1_low (by omega) (by omega)]
    · rw [upn_n _ _ e]
  rw [e0] at q2
  refine ⟨ν2, ?_, q2⟩
  unfold Fm_undo
  rw [p1, Option.bind_some]
  simp only []
  rw [if_pos (by rw [b2iT]; exact id), (cr h).1, (cr p2).1, upn_s, q1, un1_4]
theorem st_undo {a b : Nat → Nat} {τ : Ex} {ν : Nm} (h : Inv a b τ ν) : Step τ Fm_undo Md_undo ν := by
  have hw := h.1
  have hb := wb hw
  by_cases e : a 4 = 0
  · refine Step_no h (-1) ?_ ?_
    · unfold Fm_undo St_pop
      rw [(cr (C1_0 h)).2.2.2.2.1, e]; rfl
    · unfold Md_undo
      rw [mr (M1_0 h (C1_0 h)) (by decide) (by decide), e]; rfl
  · have h1 : 1 ≤ a 4 := by omega
    obtain ⟨ν1, p1, p2⟩ := c_undo (C1_0 h) hw h1
    obtain ⟨ν2, q1, q2⟩ := m_undo (M1_0 h p2) hw h1
    obtain ⟨ho, -⟩ := un_steps hw h1
    exact Step_mk h p2 q2 (WF_undo hw h1) (fun i hi => undoA_low ho hb.1 (by omega) (by omega)) _ p1 q1
/-! A Store is copied. -/
theorem st_copy {s s2 : Nat} (hd : s + 135 ≤ s2 ∨ s2 + 135 ≤ s) {f n : Nat} (hf : f < 30) (hn : n ≤ 30) {ν0 : Nm} (hsrc1 : gi ν0 (s + 5) 1 = nI f) : ∀ (k g i : Nat) (ν : Nm), i + k = n → k < g → gi ν (s2 + 5) 1 = nI f → gi ν (s2 + 5) 2 = nI n → (∀ q j, q < s2 ∨ s2 + 135 ≤ q → gi ν q j = gi ν0 q j) → (∀ q j, gl ν q j = gl ν0 q j) → ∃ ν2, St_copy_18 g (s2 + 5) (s + 5) (nI i) ν = some ν2 ∧ (∀ q j, q < s2 + 7 ∨ s2 + 127 ≤ q → gi ν2 q j = gi ν q j) ∧ (∀ q j, gl ν2 q j = gl ν q j) ∧ (∀ d, i ≤ d → d < n → PCp (s2 + 7 + 4 * ((f + d) % 30)) (s + 7 + 4 * ((f + d) % 30)) ν2 ν0) ∧ ∀ q j, (∀ d, i ≤ d → d < n → ¬ (s2 + 7 + 4 * ((f + d) % 30) ≤ q ∧ q < s2 + 7 + 4 * ((f + d) % 30) + 4)) → gi ν2 q j = gi ν q j := by
  intro k
  induction k with
  | zero =>
    intro g i ν hi hg h1 h2 h3 h3l
    obtain ⟨g, rfl⟩ := fsucc hg
    exact ⟨ν, by rw [St_copy_18, h2, if_pos (by rw [nI_le' (by omega) (by omega)]; omega)], fun _ _ _ => rfl, fun _ _ => rfl, fun d _ _ => by omega, fun _ _ _ => rfl⟩
  | succ k ih =>
    intro g i ν hi hg h1 h2 h3 h3l
    obtain ⟨g, rfl⟩ := fsucc hg
    have hat : (f + i) % 30 < 30 := Nat.mod_lt _ (by decide)
    have em : nI f + nI i - (nI f + nI i) / 30 * 30 = nI ((f + i) % 30) := by
      rw [nI_add, show (30 : Int32) = nI 30 from rfl, nI_mod (by omega) (by omega)]
    obtain ⟨ν1, c0, c1, c2, c3⟩ := pt_copy' (s2 + 5 + 1 + 1 + 4 * ((f + i) % 30)) (s + 5 + 1 + 1 + 4 * ((f + i) % 30)) (by omega) ν
    obtain ⟨ν2, p1, p2, p3, p4, p5⟩ := ih g (i + 1) ν1 (by omega) (by omega) (by rw [c1 _ _ (by omega)]; exact h1) (by rw [c1 _ _ (by omega)]; exact h2) (fun q j hq => by rw [c1 _ _ (by omega)]; exact h3 q j hq) (fun q j => by rw [c2]; exact h3l q j)
    refine ⟨ν2, ?_, fun q j hq => by rw [p2 q j hq, c1 q j (by omega)], fun q j => by rw [p3, c2], fun d h1 h2 => ?_, fun q j hq => ?_⟩
    · rw [St_copy_18, h2, if_neg (by rw [nI_le' (by omega) (by omega)]; omega), if_neg (by rw [show (30 : Int32) = nI 30 from rfl, nI_le' (by omega) (by omega)]; omega), h1, em, inb_nI (by omega), nI_clamp (by omega), if_pos (by simp; omega), if_pos (by simp; omega), c0, Option.bind_some, show (1 : Int32) = nI 1 from rfl, nI_add]
      exact p1
    · by_cases e : d = i
      · subst e
        refine PCp_src (PCp_dst c3 (fun q j k1 k2 => p5 q j (fun d2 e1 e2 => ?_))) (fun q j k1 k2 => h3 q j (by omega))
        have hne : (f + d2) % 30 ≠ (f + d) % 30 := by omega
        have hb2 : (f + d2) % 30 < 30 := Nat.mod_lt _ (by decide)
        omega
      · exact p4 d (by omega) h2
    · rw [p5 q j (fun d e1 e2 => hq d (by omega) e2), c1 q j (by have := hq i (by omega) (by omega); omega)]
theorem tl_s : tl 130 = 4 ∧ tl 132 = 8 ∧ tl 134 = 8 ∧ tl 265 = 4 ∧ tl 267 = 8 ∧ tl 269 = 8 := by decide +kernel
theorem to_copy {p s n : Nat} (hne : p + 1 ≠ s + 1) (h1 : tl p = n) (h2 : tl s = n) (hn : n ≤ 8) : ∀ (k g i : Nat) (ν : Nm), i + k = n → k < g → ∃ ν2, To_copy_10 g p s (nI i) ν = some ν2 ∧ (∀ q j, ¬ (q = p + 1) → gi ν2 q j = gi ν q j) ∧ (∀ q j, gl ν2 q j = gl ν q j) ∧ (∀ j, j < i → gi ν2 (p + 1) j = gi ν (p + 1) j) ∧ ∀ j, i ≤ j → j < n → gi ν2 (p + 1) j = gi ν (s + 1) j := by
  intro k
  induction k with
  | zero =>
    intro g i ν hi hg
    obtain ⟨g, rfl⟩ := fsucc hg
    exact ⟨ν, by rw [To_copy_10, h1, if_pos (by show nI n ≤ nI i; rw [nI_le' (by omega) (by omega)]; omega)], fun _ _ _ => rfl, fun _ _ => rfl, fun _ _ => rfl, fun j _ _ => by omega⟩
  | succ k ih =>
    intro g i ν hi hg
    obtain ⟨g, rfl⟩ := fsucc hg
    obtain ⟨ν2, p1, p2, p3, p4, p5⟩ := ih g (i + 1) (si ν (p + 1) i (gi ν (s + 1) i)) (by omega) (by omega)
    refine ⟨ν2, ?_, fun q j hq => by rw [p2 q j hq, gi_si_q _ _ _ _ hq], fun q j => by rw [p3, gl_si], fun j hj => by rw [p4 j (by omega), gi_si_j _ _ _ (by omega)], fun j j1 j2 => ?_⟩
    · rw [To_copy_10, h1, h2, if_neg (by show ¬ nI n ≤ nI i; rw [nI_le' (by omega) (by omega)]; omega), if_neg (by show ¬ nI n ≤ nI i; rw [nI_le' (by omega) (by omega)]; omega), inb_nI (by omega), nI_clamp (by omega), if_pos (by simp; omega), if_pos (by simp; omega), show (1 : Int32) = nI 1 from rfl, nI_add]
      exact p1
    · by_cases e : j = i
      · subst e; rw [p4 j (by omega), gi_si_s]
      · rw [p5 j (by omega) j2, gi_si_q _ _ _ _ (Ne.symm hne)]

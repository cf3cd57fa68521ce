/-! The tape; looks at more. -/
/-- a call that changes the tape alone -/
def ft (q j : Nat) : Prop := (q = 271 ∧ j = 1) ∨ q = 272 ∨ q = 317 ∨ (q = 313 ∧ j = 4)
theorem Inv_tape {a b : Nat → Nat} {τ : Ex} {ν ν2 : Nm} (h : Inv a b τ ν) (hf : Fr ft ν ν2) (n : Nat) (hn : n ≤ 300) (h1 : gi ν2 271 1 = nI n) (h2 : gi ν2 313 4 = nI n) (h3 : ∀ i, i < 300 → ∃ k, k < 256 ∧ gi ν2 272 i = nI k ∧ gi ν2 317 i = nI k) : Inv a b τ ν2 := by
  obtain ⟨w1, w2, c1, c2, m1, m2, t, o1, o2, o3, o4, o5, o6⟩ := h
  have k : ∀ q j, q < 271 ∨ (314 ≤ q ∧ q < 317) ∨ (q = 271 ∧ j ≠ 1) ∨ (q = 313 ∧ j ≠ 4) → gi ν2 q j = gi ν q j := fun q j hq => hf.1 q j (by unfold ft; omega)
  exact ⟨w1, w2, CX_keep c1 (fun q j _ _ => k q j (by omega)), CX_keep c2 (fun q j _ _ => k q j (by omega)), MX_keep m1 (fun j => k _ _ (by omega)), MX_keep m2 (fun j => k _ _ (by omega)), τ.2 a a ν ν2 t (fun _ _ => rfl) (fun q j hq => hf.1 q j (by unfold dx at hq; unfold ft; omega)) (fun q j hq => hf.2 q j (by unfold dx at hq; unfold ft; omega)), o1, by rw [k _ _ (by omega)]; exact o2, ⟨n, hn, h1, h2⟩, h3, by rw [k _ _ (by omega), k _ _ (by omega)]; exact o5, by rw [k _ _ (by omega), k _ _ (by omega)]; exact o6⟩
theorem st_end {a b : Nat → Nat} {τ : Ex} {ν : Nm} (h : Inv a b τ ν) (x : Int32) : Step τ (Fm_end x) (Md_end x) ν := by
  obtain ⟨n, hn, q1, q2⟩ := h.2.2.2.2.2.2.2.2.2.1
  rcases isIn_cases x 0 n (by omega) (by omega) with ⟨m, _, h2, rfl, h3⟩ | ⟨h1, h3⟩
  · refine ⟨nI m, si ν 271 1 (nI m), si (si ν 271 1 (nI m)) 313 4 (nI m), a, b, ?_, ?_, Inv_tape h (Fr_si (Fr_si (Fr_rfl _ _) _ (Or.inl ⟨rfl, rfl⟩)) _ (Or.inr (Or.inr (Or.inr ⟨rfl, rfl⟩)))) m (by omega) ?_ ?_ (fun i hi => ?_)⟩
    · unfold Fm_end
      rw [q1, within_isIn, show (0 : Int32) = nI 0 from rfl, h3]; rfl
    · unfold Md_end
      rw [gi_si_q _ _ _ _ (by omega), q2, show (0 : Int32) = nI 0 from rfl, h3]; rfl
    · rw [gi_si_q _ _ _ _ (by omega), gi_si_s]
    · rw [gi_si_s]
    · rw [gi_si_q _ _ _ _ (by omega), gi_si_q _ _ _ _ (by omega), gi_si_q _ _ _ _ (by omega), gi_si_q _ _ _ _ (by omega)]
      exact h.2.2.2.2.2.2.2.2.2.2.1 i hi
  · exact Step_no h (-1) (by unfold Fm_end; rw [q1, within_isIn, show (0 : Int32) = nI 0 from rfl, h3]; rfl) (by unfold Md_end; rw [q2, show (0 : Int32) = nI 0 from rfl, h3]; rfl)
theorem byte_of (x s : Int32) : ∃ k, k < 256 ∧ (x >>> (s &&& 31)) &&& 255 = nI k := by
  refine ⟨((x >>> (s &&& 31)) &&& 255).toBitVec.toNat, ?_, ?_⟩
  · rw [Int32.toBitVec_and, BitVec.toNat_and, show (255 : Int32).toBitVec.toNat = 255 from rfl]
    exact Nat.lt_of_le_of_lt Nat.and_le_right (by decide)
  · apply Int32.toBitVec_inj.mp
    rw [nI_bv, BitVec.ofNat_toNat, BitVec.setWidth_eq]
/-- what both tapes hold -/
def TP (n : Nat) (d d2 : Nat) (ν : Nm) : Prop := gi ν 271 1 = nI n
/-- bytes of four, one by one, in the class -/
theorem c_four3 (x : Int32) : ∀ (k f n : Nat) (ν : Nm), k ≤ 4 → k < f → n + k ≤ 300 → gi ν 271 1 = nI n → ∃ ν2, Rd_append_3 f x (nI (8 * k) - 8) ν = some ν2 ∧ Fr (fun q j => (q = 271 ∧ j = 1) ∨ q = 272) ν ν2 ∧ gi ν2 271 1 = nI (n + k) ∧ (∀ i, i < n → gi ν2 272 i = gi ν 272 i) ∧ (∀ i, n + k ≤ i → gi ν2 272 i = gi ν 272 i) ∧ ∀ i, i < k → gi ν2 272 (n + i) = (x >>> ((nI (8 * (k - i)) - 8) &&& 31)) &&& 255 := by
  intro k
  induction k with
  | zero =>
    intro f n ν hk hf hn h
    obtain ⟨f, rfl⟩ := fsucc hf
    exact ⟨ν, by rw [Rd_append_3, if_pos (by decide)], Fr_rfl _ _, h, fun _ _ => rfl, fun _ _ => rfl, fun i hi => by omega⟩
  | succ k ih =>
    intro f n ν hk hf hn h
    obtain ⟨f, rfl⟩ := fsucc hf
    have e8 : nI (8 * (k + 1)) - 8 = nI (8 * k) := by rw [show (8 : Int32) = nI 8 from rfl, nI_sub (by omega)]; congr 1
    obtain ⟨ν2, p1, p2, p3, p4, p5, p6⟩ := ih f (n + 1) (si (si ν 272 n ((x >>> ((nI (8 * (k + 1)) - 8) &&& 31)) &&& 255)) 271 1 (nI (n + 1))) (by omega) (by omega) (by omega) (by rw [gi_si_s])
    refine ⟨ν2, ?_, Fr_tr (Fr_si (Fr_si (Fr_rfl _ _) _ (Or.inr rfl)) _ (Or.inl ⟨rfl, rfl⟩)) p2, by rw [p3]; congr 1; omega, fun i hi => ?_, fun i hi => ?_, fun i hi => ?_⟩
    · rw [Rd_append_3, if_neg (by rw [e8]; exact nI_pos (by omega)), h, if_neg (by rw [show (300 : Int32) = nI 300 from rfl, nI_le' (by omega) (by omega)]; omega), inb_nI (by omega), nI_clamp (by omega), if_pos (by simp; omega)]
      unfold Rd_append_43
      rw [gi_si_q _ _ _ _ (by omega), h, show (1 : Int32) = nI 1 from rfl, nI_add]
      rw [← p1, e8, Int32.sub_eq_add_neg]
    · rw [p4 i (by omega), gi_si_q _ _ _ _ (by omega), gi_si_j _ _ _ (by omega)]
    · rw [p5 i (by omega), gi_si_q _ _ _ _ (by omega), gi_si_j _ _ _ (by omega)]
    · by_cases e : i = 0
      · subst e
        rw [Nat.add_zero, p4 n (by omega), gi_si_q _ _ _ _ (by omega), gi_si_s, Nat.sub_zero]
      · have q := p6 (i - 1) (by omega)
        rw [show n + 1 + (i - 1) = n + i by omega] at q
        rw [q, show 8 * (k - (i - 1)) = 8 * (k + 1 - i) by omega]
theorem m_four3 (x : Int32) : ∀ (k f n : Nat) (ν : Nm), k ≤ 4 → k < f → n + k ≤ 300 → gi ν 313 4 = nI n → ∃ ν2, Md_four_3 f x (nI (8 * k) - 8) ν = some ν2 ∧ Fr (fun q j => (q = 313 ∧ j = 4) ∨ q = 317) ν ν2 ∧ gi ν2 313 4 = nI (n + k) ∧ (∀ i, i < n → gi ν2 317 i = gi ν 317 i) ∧ (∀ i, n + k ≤ i → gi ν2 317 i = gi ν 317 i) ∧ ∀ i, i < k → gi ν2 317 (n + i) = (x >>> ((nI (8 * (k - i)) - 8) &&& 31)) &&& 255 := by
  intro k
  induction k with
  | zero =>
    intro f n ν hk hf hn h
    obtain ⟨f, rfl⟩ := fsucc hf
    exact ⟨ν, by rw [Md_four_3, if_pos (by decide)], Fr_rfl _ _, h, fun _ _ => rfl, fun _ _ => rfl, fun i hi => by omega⟩
  | succ k ih =>
    intro f n ν hk hf hn h
    obtain ⟨f, rfl⟩ := fsucc hf
    have e8 : nI (8 * (k + 1)) - 8 = nI (8 * k) := by rw [show (8 : Int32) = nI 8 from rfl, nI_sub (by omega)]; congr 1
    obtain ⟨ν2, p1, p2, p3, p4, p5, p6⟩ := ih f (n + 1) (si (si ν 317 n ((x >>> ((nI (8 * (k + 1)) - 8) &&& 31)) &&& 255)) 313 4 (nI (n + 1))) (by omega) (by omega) (by omega) (by rw [gi_si_s])
    refine ⟨ν2, ?_, Fr_tr (Fr_si (Fr_si (Fr_rfl _ _) _ (Or.inr rfl)) _ (Or.inl ⟨rfl, rfl⟩)) p2, by rw [p3]; congr 1; omega, fun i hi => ?_, fun i hi => ?_, fun i hi => ?_⟩
    · rw [Md_four_3, if_neg (by rw [e8]; exact nI_pos (by omega)), h, inb_nI (by omega), nI_clamp (by omega), if_pos (by simp; omega)]
      unfold Md_four_33
      rw [gi_si_q _ _ _ _ (by omega), h, show (1 : Int32) = nI 1 from rfl, nI_add]
      rw [← p1, e8, Int32.sub_eq_add_neg]
    · rw [p4 i (by omega), gi_si_q _ _ _ _ (by omega), gi_si_j _ _ _ (by omega)]
    · rw [p5 i (by omega), gi_si_q _ _ _ _ (by omega), gi_si_j _ _ _ (by omega)]
    · by_cases e : i = 0
      · subst e
        rw [Nat.add_zero, p4 n (by omega), gi_si_q _ _ _ _ (by omega), gi_si_s, Nat.sub_zero]
      · have q := p6 (i - 1) (by omega)
        rw [show n + 1 + (i - 1) = n + i by omega] at q
        rw [q, show 8 * (k - (i - 1)) = 8 * (k + 1 - i) by omega]
/-- class and model take four bytes alike (the model's own tape is looked at in ν2) -/
def TE (n : Nat) (ν ν2 : Nm) : Prop := n ≤ 300 ∧ gi ν 271 1 = nI n ∧ gi ν2 313 4 = nI n ∧ ∀ i, i < 300 → ∃ k, k < 256 ∧ gi ν 272 i = nI k ∧ gi ν2 317 i = nI k
theorem te_four {n : Nat} {ν ν2 : Nm} (h : TE n ν ν2) (hn : n + 4 ≤ 300) (x : Int32) : ∃ ν3 ν4, Rd_append x ν = some ν3 ∧ Md_four x ν2 = some ν4 ∧ TE (n + 4) ν3 ν4 ∧ Fr (fun q j => (q = 271 ∧ j = 1) ∨ q = 272) ν ν3 ∧ Fr (fun q j => (q = 313 ∧ j = 4) ∨ q = 317) ν2 ν4 := by
  obtain ⟨h1, h2, h3, h4⟩ := h
  obtain ⟨ν3, p1, p2, p3, p4, p5, p6⟩ := c_four3 x 4 FU n ν (by omega) (by unfold FU; omega) hn h2
  obtain ⟨ν4, r1, r2, r3, r4, r5, r6⟩ := m_four3 x 4 FU n ν2 (by omega) (by unfold FU; omega) hn h3
  refine ⟨ν3, ν4, p1, r1, ⟨hn, p3, r3, fun i hi => ?_⟩, p2, r2⟩
  by_cases q : i < n
  · rw [p4 i q, r4 i q]; exact h4 i hi
  · by_cases q2 : n + 4 ≤ i
    · rw [p5 i q2, r5 i q2]; exact h4 i hi
    · have e1 := p6 (i - n) (by omega)
      have e2 := r6 (i - n) (by omega)
      rw [show n + (i - n) = i by omega] at e1 e2
      rw [e1, e2]
      obtain ⟨k, k1, k2⟩ := byte_of x (nI (8 * (4 - (i - n))) - 8)
      exact ⟨k, k1, k2, k2⟩
theorem st_feed {a b : Nat → Nat} {τ : Ex} {ν : Nm} (h : Inv a b τ ν) (x1 x2 x3 x4 x5 : Int32) : Step τ (Fm_feed x1 x2 x3 x4 x5) (Md_feed x1 x2 x3 x4 x5) ν := by
  obtain ⟨n, hn, q1, q2⟩ := h.2.2.2.2.2.2.2.2.2.1
  have qt := h.2.2.2.2.2.2.2.2.2.2.1
  have e20 : nI n + 20 = nI (n + 20) := nI_add n 20
  by_cases h20 : n + 20 ≤ 300
  · -- the model's calls are first looked at in ν itself
    obtain ⟨v1, w1, a1, b1, t1, f1, g1⟩ := te_four (show TE n ν ν from ⟨hn, q1, q2, qt⟩) (by omega) x1
    obtain ⟨v2, w2, a2, b2, t2, f2, g2⟩ := te_four t1 (by omega) x2
    obtain ⟨v3, w3, a3, b3, t3, f3, g3⟩ := te_four t2 (by omega) x3
    obtain ⟨v4, w4, a4, b4, t4, f4, g4⟩ := te_four t3 (by omega) x4
    obtain ⟨v5, w5, a5, b5, t5, f5, g5⟩ := te_four t4 (by omega) x5
    have fc5 := Fr_tr (Fr_tr (Fr_tr (Fr_tr f1 f2) f3) f4) f5
    -- and then in v5
    have s0 : TE n ν v5 := ⟨hn, q1, by rw [fc5.1 _ _ (by omega)]; exact q2, fun i hi => by rw [fc5.1 317 _ (by omega)]; exact qt i hi⟩
    obtain ⟨v1', w1, a1', b1, t1, f1', g1⟩ := te_four s0 (by omega) x1
    obtain rfl : v1 = v1' := Option.some.inj (a1.symm.trans a1')
    obtain ⟨v2', w2, a2', b2, t2, f2', g2⟩ := te_four t1 (by omega) x2
    obtain rfl : v2 = v2' := Option.some.inj (a2.symm.trans a2')
    obtain ⟨v3', w3, a3', b3, t3, f3', g3⟩ := te_four t2 (by omega) x3
    obtain rfl : v3 = v3' := Option.some.inj (a3.symm.trans a3')
    obtain ⟨v4', w4, a4', b4, t4, f4', g4⟩ := te_four t3 (by omega) x4
    obtain rfl : v4 = v4' := Option.some.inj (a4.symm.trans a4')
    obtain ⟨v5', w5, a5', b5, t5, f5', g5⟩ := te_four t4 (by omega) x5
    obtain rfl : v5 = v5' := Option.some.inj (a5.symm.trans a5')
    have fm5 := Fr_tr (Fr_tr (Fr_tr (Fr_tr g1 g2) g3) g4) g5
    have ff : Fr ft ν w5 := Fr_tr (Fr_mono fc5 (fun q j m => by unfold ft; omega)) (Fr_mono fm5 (fun q j m => by unfold ft; omega))
    obtain ⟨z1, z2, z3, z4⟩ := t5
    refine ⟨nI (n + 4 + 4 + 4 + 4 + 4), v5, w5, a, b, ?_, ?_, Inv_tape h ff (n + 4 + 4 + 4 + 4 + 4) z1 ?_ z3 (fun i hi => ?_)⟩
    · unfold Fm_feed
      rw [q1, e20, if_pos (by rw [show (300 : Int32) = nI 300 from rfl, nI_le' (by omega) (by omega)]; exact h20), a1, Option.bind_some, a2, Option.bind_some, a3, Option.bind_some, a4, Option.bind_some, a5, Option.bind_some, z2]
    · unfold Md_feed
      rw [s0.2.2.1, e20, if_pos (by rw [show (300 : Int32) = nI 300 from rfl, nI_le' (by omega) (by omega)]; exact h20), b1, Option.bind_some, b2, Option.bind_some, b3, Option.bind_some, b4, Option.bind_some, b5, Option.bind_some, z3]
    · rw [fm5.1 _ _ (by omega)]; exact z2
    · rw [fm5.1 272 _ (by omega)]; exact z4 i hi
  · refine Step_no h (-1) ?_ ?_
    · unfold Fm_feed
      rw [q1, e20, if_neg (by rw [show (300 : Int32) = nI 300 from rfl, nI_le' (by omega) (by omega)]; exact h20)]
    · unfold Md_feed
      rw [q2, e20, if_neg (by rw [show (300 : Int32) = nI 300 from rfl, nI_le' (by omega) (by omega)]; exact h20)]
theorem st_about {a b : Nat → Nat} {τ : Ex} {ν : Nm} (h : Inv a b τ ν) (x : Int32) : ∃ v, Fm_about ν x = some v ∧ Md_about ν x = some v := by
  have hc := C1_0 h
  have hm := M1_0 h hc
  have r := cr hc
  obtain ⟨n, hn, q1, q2⟩ := h.2.2.2.2.2.2.2.2.2.1
  have m1 : ∀ k, k ≤ 7 → Md_about ν (nI k) = some (gi ν 314 k) := by
    intro k hk
    unfold Md_about
    rw [show (0 : Int32) = nI 0 from rfl, show (7 : Int32) = nI 7 from rfl, isIn_t (by omega) hk (by decide), Option.bind_some, if_neg (by simp [b2iT']), inb_nI (by omega), nI_clamp (by omega), if_pos (by simp; omega)]
  rcases isIn_cases x 0 7 (by decide) (by decide) with ⟨k, _, h2, rfl, h3⟩ | ⟨hx, h3⟩
  · rw [m1 k h2]
    unfold Fm_about
    rcases (show k = 0 ∨ k = 1 ∨ k = 2 ∨ k = 3 ∨ k = 4 ∨ k = 5 ∨ k = 6 ∨ k = 7 by omega) with rfl | rfl | rfl | rfl | rfl | rfl | rfl | rfl
    · refine ⟨nI (a 0), ?_, by rw [mr hm (by decide) (by decide)]⟩
      rw [if_pos (by decide), r.1]
    · refine ⟨nI (a 1), ?_, by rw [mr hm (by decide) (by decide)]⟩
      rw [if_neg (show ¬ nI 1 = 0 by decide), if_pos (by decide), r.2.1]
    · refine ⟨nI (a 2), ?_, by rw [mr hm (by decide) (by decide)]⟩
      rw [if_neg (show ¬ nI 2 = 0 by decide), if_neg (show ¬ nI 2 = 1 by decide), if_pos (by decide), r.2.2.1]
    · refine ⟨nI (a 3) - 1, ?_, by rw [mr3 hm]⟩
      rw [if_neg (show ¬ nI 3 = 0 by decide), if_neg (show ¬ nI 3 = 1 by decide), if_neg (show ¬ nI 3 = 2 by decide), if_pos (by decide), r.2.2.2.1]
    · refine ⟨nI (a 4), ?_, by rw [mr hm (by decide) (by decide)]⟩
      rw [if_neg (show ¬ nI 4 = 0 by decide), if_neg (show ¬ nI 4 = 1 by decide), if_neg (show ¬ nI 4 = 2 by decide), if_neg (show ¬ nI 4 = 3 by decide), if_pos (by decide), r.2.2.2.2.1]
    · refine ⟨nI (a 5), ?_, by rw [mr hm (by decide) (by decide)]⟩
      rw [if_neg (show ¬ nI 5 = 0 by decide), if_neg (show ¬ nI 5 = 1 by decide), if_neg (show ¬ nI 5 = 2 by decide), if_neg (show ¬ nI 5 = 3 by decide), if_neg (show ¬ nI 5 = 4 by decide), if_pos (by decide), r.2.2.2.2.2.1]
    · refine ⟨nI (a 6), ?_, by rw [mr hm (by decide) (by decide)]⟩
      rw [if_neg (show ¬ nI 6 = 0 by decide), if_neg (show ¬ nI 6 = 1 by decide), if_neg (show ¬ nI 6 = 2 by decide), if_neg (show ¬ nI 6 = 3 by decide), if_neg (show ¬ nI 6 = 4 by decide), if_neg (show ¬ nI 6 = 5 by decide), if_pos (by decide), r.2.2.2.2.2.2.1]
    · refine ⟨nI (a 7), ?_, by rw [mr hm (by decide) (by decide)]⟩
      rw [if_neg (show ¬ nI 7 = 0 by decide), if_neg (show ¬ nI 7 = 1 by decide), if_neg (show ¬ nI 7 = 2 by decide), if_neg (show ¬ nI 7 = 3 by decide), if_neg (show ¬ nI 7 = 4 by decide), if_neg (show ¬ nI 7 = 5 by decide), if_neg (show ¬ nI 7 = 6 by decide), if_pos (by decide), r.2.2.2.2.2.2.2.1]
  · unfold Fm_about Md_about
    rw [if_neg (show ¬ x = 0 from hx 0 (by decide) (by decide)), if_neg (show ¬ x = 1 from hx 1 (by decide) (by decide)), if_neg (show ¬ x = 2 from hx 2 (by decide) (by decide)), if_neg (show ¬ x = 3 from hx 3 (by decide) (by decide)), if_neg (show ¬ x = 4 from hx 4 (by decide) (by decide)), if_neg (show ¬ x = 5 from hx 5 (by decide) (by decide)), if_neg (show ¬ x = 6 from hx 6 (by decide) (by decide)), if_neg (show ¬ x = 7 from hx 7 (by decide) (by decide)), show (0 : Int32) = nI 0 from rfl, show (7 : Int32) = nI 7 from rfl, h3, Option.bind_some, if_pos (show b2i false = nI 0 from rfl)]
    by_cases e : x = 8
    · exact ⟨_, by rw [if_pos e, q1], by rw [if_neg (by simp [e]), q2]⟩
    · exact ⟨_, by rw [if_neg e], by rw [if_pos e]⟩
/-- after how many sparks a cord goes out (0: never) -/
def outA (a : Nat → Nat) (c : Nat) : Nat := (a (12 + 2 * c) + pc16 (a (13 + 2 * c)) - 1) / pc16 (a (13 + 2 * c))
theorem c_out {a : Nat → Nat} {ν0 ν : Nm} (h : C1 a ν0 ν) (hw : WF a) {c : Nat} (hc : c < 4) : Pt_sparksToOut ν 2 (nI c) = if a (13 + 2 * c) = 0 then some (-1) else some (nI (outA a c)) := by
  have hb := wbc hw hc
  have hp := pc_le (a (13 + 2 * c)) (by omega)
  unfold Pt_sparksToOut
  rw [inb_nI (by omega), nI_clamp (by omega), if_pos (by simp; omega), show (2 + 2 : Nat) = 4 from rfl, cr_ends h hc, bc16 (by omega), Option.bind_some]
  by_cases e : a (13 + 2 * c) = 0
  · rw [if_pos e, e, if_neg (by decide)]
  · have hp0 : pc16 (a (13 + 2 * c)) ≠ 0 := fun q => e (hp.2.mp q)
    have e0 : ¬ nI (pc16 (a (13 + 2 * c))) = 0 := by rw [show (0 : Int32) = nI 0 from rfl, nI_eq' (by omega) (by omega)]; exact hp0
    rw [if_neg e, if_pos e0, if_pos (by simp; omega), if_neg e0, show (2 + 1 : Nat) = 3 from rfl, cr_rest h hc, nI_add, show (1 : Int32) = nI 1 from rfl, nI_sub (by omega), nI_div (by omega) (by omega)]
    rfl
theorem m_out {a : Nat → Nat} {ν0 ν : Nm} (h : M1 a ν0 ν) (hw : WF a) {c : Nat} (hc : c < 4) : Md_outIn ν (nI c) = if a (13 + 2 * c) = 0 then some (nI 1000000) else some (nI (outA a c)) := by
  have hb := wbc hw hc
  have hp := pc_le (a (13 + 2 * c)) (by omega)
  unfold Md_outIn
  rw [show (1 : Int32) = nI 1 from rfl, m_g1 h hc, Option.bind_some, bits_in _ (by omega), Option.bind_some]
  by_cases e : a (13 + 2 * c) = 0
  · rw [if_pos e, e, if_neg (by decide)]; rfl
  · have hp0 : pc16 (a (13 + 2 * c)) ≠ 0 := fun q => e (hp.2.mp q)
    have e0 : ¬ nI (pc16 (a (13 + 2 * c))) = 0 := by rw [show (0 : Int32) = nI 0 from rfl, nI_eq' (by omega) (by omega)]; exact hp0
    rw [if_neg e, if_pos e0, show (0 : Int32) = nI 0 from rfl, m_g0 h hc, Option.bind_some, if_neg (show ¬ nI (pc16 (a (13 + 2 * c))) = nI 0 from e0), nI_add, nI_sub (by omega), nI_div (by omega) (by omega)]
    rfl
theorem outA_le {a : Nat → Nat} (hw : WF a) {c : Nat} (hc : c < 4) (e : a (13 + 2 * c) ≠ 0) : 1 ≤ outA a c ∧ outA a c ≤ 3841 := by
  have hb := wbc hw hc
  have hp := pc_le (a (13 + 2 * c)) (by omega)
  have hp0 : pc16 (a (13 + 2 * c)) ≠ 0 := fun q => e (hp.2.mp q)
  have hr := (hw.2.2.2.1.1 c hc).1 (by rw [show 12 + 1 + 2 * c = 13 + 2 * c by omega]; exact e)
  unfold outA
  constructor
  · rw [Nat.le_div_iff_mul_le (by omega)]; omega
  · exact Nat.le_trans (Nat.div_le_self _ _) (by omega)
theorem st_out {a b : Nat → Nat} {τ : Ex} {ν : Nm} (h : Inv a b τ ν) (x : Int32) : ∃ v, Fm_out ν x = some v ∧ Md_out ν x = some v := by
  have hw := h.1
  have hc := C1_0 h
  have hm := M1_0 h hc
  have hb := wb hw
  unfold Fm_out Md_out
  rcases below_cases x (a 0) with ⟨c, h1, rfl⟩ | hx
  · have h4 : c < 4 := by omega
    have hbc := wbc hw h4
    rw [c_has_t hc hw h1, m_isCord_t hm hw h1, m_isOut hm hw h4, c_out hc hw h4, m_out hm hw h4]
    simp (disch := omega) only [lit_nI, nI_add, nI_mul, nI_sub, nI_le', nI_lt', nI_eq', inb_nI, nI_clamp, b2iT', b2iF', b2i0', Option.bind_some, if_true, if_false, not_true_eq_false, not_false_eq_true, decide_eq_true_eq, decide_eq_false_iff_not, reduceCtorEq, Nat.add_zero, Nat.zero_add, cr_rest hc, h4]
    by_cases e : a (12 + 2 * c) = 0
    · simp only [e, not_true_eq_false, if_false, if_true]
      exact ⟨_, rfl, rfl⟩
    · simp only [e, not_false_eq_true, if_true, if_false]
      by_cases e2 : a (13 + 2 * c) = 0
      · simp only [e2, if_true, Option.bind_some, not_true_eq_false, if_false]
        exact ⟨_, rfl, rfl⟩
      · have hl := outA_le hw h4 e2
        simp only [e2, if_false, Option.bind_some]
        rw [if_pos (by rw [nI_eq' (by omega) (by omega)]; omega)]
        exact ⟨_, rfl, rfl⟩
  · rw [c_has_f hc hw hx, m_isCord_f hm hw hx]
    exact ⟨_, rfl, rfl⟩

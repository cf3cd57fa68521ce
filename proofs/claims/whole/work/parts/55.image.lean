/-! Images. -/
theorem to_copyT {p s n : Nat} (hne : p + 1 < s ∨ s + 1 < p) (h1 : tl p = n) (h2 : tl s = n) (hn : n ≤ 8) (ν : Nm) : ∃ ν2, To_copy p s ν = some ν2 ∧ (∀ q j, ¬ (q = p + 1) → ¬ (q = p ∧ j = 1) → gi ν2 q j = gi ν q j) ∧ (∀ q j, gl ν2 q j = gl ν q j) ∧ gi ν2 p 1 = gi ν s 1 ∧ ∀ j, j < n → gi ν2 (p + 1) j = gi ν (s + 1) j := by
  obtain ⟨ν2, p1, p2, p3, p4, p5⟩ := to_copy (p := p) (s := s) (by omega) h1 h2 hn n FU 0 (si ν p 1 (gi ν s 1)) (by omega) (by unfold FU; omega)
  refine ⟨ν2, p1, fun q j h1 h2 => by rw [p2 q j h1, gi_si, if_neg h2], fun q j => by rw [p3, gl_si], by rw [p2 _ _ (by omega), gi_si_s], fun j hj => by rw [p5 j (by omega) hj, gi_si_q _ _ _ _ (by omega)]⟩
theorem so_copy66 {s s2 : Nat} (hs : (s = 1 ∧ s2 = 136) ∨ (s = 136 ∧ s2 = 1)) (ν : Nm) : ∃ ν2, So_copy_66 s2 s ν = some ν2 ∧ (∀ q j, (q < s2 + 129 ∨ s2 + 135 ≤ q) → ¬ (q = s2 ∧ (j = 6 ∨ j = 7)) → gi ν2 q j = gi ν q j) ∧ (∀ q j, gl ν2 q j = gl ν q j) ∧ gi ν2 s2 6 = gi ν s 6 ∧ gi ν2 s2 7 = gi ν s 7 ∧ gi ν2 (s2 + 129) 1 = gi ν (s + 129) 1 ∧ gi ν2 (s2 + 131) 1 = gi ν (s + 131) 1 ∧ gi ν2 (s2 + 133) 1 = gi ν (s + 133) 1 ∧ (∀ j, j < 4 → gi ν2 (s2 + 130) j = gi ν (s + 130) j) ∧ (∀ j, j < 8 → gi ν2 (s2 + 132) j = gi ν (s + 132) j) ∧ ∀ j, j < 8 → gi ν2 (s2 + 134) j = gi ν (s + 134) j := by
  obtain ⟨t1, t2, t3, t4, t5, t6⟩ := tl_s
  have z1 : tl (s2 + 129) = 4 ∧ tl (s + 129) = 4 ∧ tl (s2 + 131) = 8 ∧ tl (s + 131) = 8 ∧ tl (s2 + 133) = 8 ∧ tl (s + 133) = 8 := by
    rcases hs with ⟨rfl, rfl⟩ | ⟨rfl, rfl⟩
    · exact ⟨t4, t1, t5, t2, t6, t3⟩
    · exact ⟨t1, t4, t2, t5, t3, t6⟩
  obtain ⟨z1, z2, z3, z4, z5, z6⟩ := z1
  obtain ⟨v1, a1, a2, a3, a4, a5⟩ := to_copyT (p := s2 + 129) (s := s + 129) (by omega) z1 z2 (by omega) (si (si ν s2 6 (gi ν s 6)) s2 7 (gi (si ν s2 6 (gi ν s 6)) s 7))
  obtain ⟨v2, b1, b2, b3, b4, b5⟩ := to_copyT (p := s2 + 131) (s := s + 131) (by omega) z3 z4 (by omega) v1
  obtain ⟨v3, c1, c2, c3, c4, c5⟩ := to_copyT (p := s2 + 133) (s := s + 133) (by omega) z5 z6 (by omega) v2
  have g0 : ∀ q j, ¬ (q = s2 ∧ (j = 6 ∨ j = 7)) → gi (si (si ν s2 6 (gi ν s 6)) s2 7 (gi (si ν s2 6 (gi ν s 6)) s 7)) q j = gi ν q j := fun q j h => by rw [gi_si, if_neg (by omega), gi_si, if_neg (by omega)]
  have g1 : ∀ q j, ¬ (q = s2 ∧ (j = 6 ∨ j = 7)) → q ≠ s2 + 130 → ¬ (q = s2 + 129 ∧ j = 1) → gi v1 q j = gi ν q j := fun q j h h1 h2 => by rw [a2 q j (by omega) (by omega), g0 q j h]
  refine ⟨v3, ?_, fun q j h1 h2 => ?_, fun q j => by rw [c3, b3, a3, gl_si, gl_si], ?_, ?_, ?_, ?_, ?_, fun j hj => ?_, fun j hj => ?_, fun j hj => ?_⟩
  · unfold So_copy_66
    rw [a1, Option.bind_some, b1, Option.bind_some, c1, Option.bind_some]
  · rw [c2 q j (by omega) (by omega), b2 q j (by omega) (by omega), g1 q j h2 (by omega) (by omega)]
  · rw [c2 _ _ (by omega) (by omega), b2 _ _ (by omega) (by omega), a2 _ _ (by omega) (by omega), gi_si, if_neg (by omega), gi_si_s]
  · rw [c2 _ _ (by omega) (by omega), b2 _ _ (by omega) (by omega), a2 _ _ (by omega) (by omega), gi_si_s, gi_si, if_neg (by omega)]
  · rw [c2 _ _ (by omega) (by omega), b2 _ _ (by omega) (by omega), a4, g0 _ _ (by omega)]
  · rw [c2 _ _ (by omega) (by omega), b4, g1 _ _ (by omega) (by omega) (by omega)]
  · rw [c4, b2 _ _ (by omega) (by omega), g1 _ _ (by omega) (by omega) (by omega)]
  · have q := a5 j hj
    rw [c2 _ _ (by omega) (by omega), b2 _ _ (by omega) (by omega), show s2 + 130 = s2 + 129 + 1 by omega, q, g0 _ _ (by omega)]
  · have q := b5 j hj
    rw [c2 _ _ (by omega) (by omega), show s2 + 132 = s2 + 131 + 1 by omega, q, g1 _ _ (by omega) (by omega) (by omega)]
  · have q := c5 j hj
    rw [show s2 + 134 = s2 + 133 + 1 by omega, q, b2 _ _ (by omega) (by omega), g1 _ _ (by omega) (by omega) (by omega)]
theorem so_copy {s s2 : Nat} (hs : (s = 1 ∧ s2 = 136) ∨ (s = 136 ∧ s2 = 1)) {a : Nat → Nat} {ν : Nm} (h : CX s a ν) (h30 : a 4 ≤ 30) : ∃ ν2, So_copy s2 s ν = some ν2 ∧ CX s2 a ν2 ∧ (∀ q j, q < s2 ∨ s2 + 135 ≤ q → gi ν2 q j = gi ν q j) ∧ ∀ q j, gl ν2 q j = gl ν q j := by
  obtain ⟨h1, h2, ⟨h3, h34⟩, f, h5, h6, h7⟩ := h
  have r4 : gi ν (s + 5) 2 = nI (a 4) := h1 (4, 5, 2) (by decide)
  obtain ⟨v1, a1, a2, a3, a4⟩ := pt_copy' (s2 + 1) (s + 1) (by omega) ν
  have i1 : ∀ q j, ¬ (q = s2 + 5) → gi (si (si v1 (s2 + 5) 1 (gi v1 (s + 5) 1)) (s2 + 5) 2 (gi (si v1 (s2 + 5) 1 (gi v1 (s + 5) 1)) (s + 5) 2)) q j = gi v1 q j := fun q j hq => by rw [gi_si_q _ _ _ _ hq, gi_si_q _ _ _ _ hq]
  obtain ⟨v2, b1, b2, b3, b4, b5⟩ := st_copy (s := s) (s2 := s2) (by omega) h5 h30 (ν0 := ν) h6 (a 4) FU 0 (si (si v1 (s2 + 5) 1 (gi v1 (s + 5) 1)) (s2 + 5) 2 (gi (si v1 (s2 + 5) 1 (gi v1 (s + 5) 1)) (s + 5) 2)) (by omega) (by unfold FU; omega) (by rw [gi_si_j _ _ _ (by omega), gi_si_s, a2 _ _ (by omega)]; exact h6) (by rw [gi_si_s, gi_si_q _ _ _ _ (by omega), a2 _ _ (by omega)]; exact r4) (fun q j hq => by rw [i1 q j (by omega), a2 q j (by omega)]) (fun q j => by rw [gl_si, gl_si, a3])
  have e2 : ∀ q j, (q < s2 ∨ s2 + 127 ≤ q) → gi v2 q j = gi ν q j := fun q j hq => by rw [b2 q j (by omega), i1 q j (by omega), a2 q j (by omega)]
  have i3 : ∀ (X : Nm) q j, (q ≠ s2 + 127 ∧ q ≠ s2 + 128) → gi (scp (scp X (s + 127) 0 (s2 + 127) 0 4) (s + 128) 0 (s2 + 128) 0 4) q j = gi X q j := fun X q j hq => by rw [gi_scp, if_neg (by omega), gi_scp, if_neg (by omega)]
  generalize hw2 : scp (scp v2 (s + 127) 0 (s2 + 127) 0 4) (s + 128) 0 (s2 + 128) 0 4 = w2
  have k2 : ∀ q j, (q ≠ s2 + 127 ∧ q ≠ s2 + 128) → gi w2 q j = gi v2 q j := fun q j hq => by rw [← hw2]; exact i3 v2 q j hq
  have k127 : ∀ c, c < 4 → gi w2 (s2 + 127) c = gi v2 (s + 127) c := fun c hc => by rw [← hw2, gi_scp, if_neg (by omega), gi_scp, if_pos (by omega)]; simp
  have k128 : ∀ c, c < 4 → gi w2 (s2 + 128) c = gi v2 (s + 128) c := fun c hc => by rw [← hw2, gi_scp, if_pos (by omega), gi_scp, if_neg (by omega)]; simp
  have l2 : ∀ q j, gl w2 q j = gl v2 q j := fun q j => by rw [← hw2]; rfl
  obtain ⟨v3, c1, c2, c3, c4, c5, c6, c7, c8, c9, c10, c11⟩ := so_copy66 hs (si (si w2 s2 4 (gi w2 s 4)) s2 5 (gi (si w2 s2 4 (gi w2 s 4)) s 5))
  have k4 : ∀ q j, ¬ (q = s2 ∧ (j = 4 ∨ j = 5)) → gi (si (si w2 s2 4 (gi w2 s 4)) s2 5 (gi (si w2 s2 4 (gi w2 s 4)) s 5)) q j = gi w2 q j := fun q j h => by rw [gi_si, if_neg (by omega), gi_si, if_neg (by omega)]
  have F : ∀ q j, q < s2 ∨ s2 + 135 ≤ q → gi v3 q j = gi ν q j := fun q j hq => by rw [c2 q j (by omega) (by omega), k4 q j (by omega), k2 q j (by omega), e2 q j (by omega)]
  have G : ∀ q j, q ≠ s2 → s2 ≤ q → q < s2 + 127 → gi v3 q j = gi v2 q j := fun q j h1 h2 h3 => by rw [c2 q j (by omega) (by omega), k4 q j (by omega), k2 q j (by omega)]
  have src : ∀ q j, s ≤ q → q < s + 135 → gi (si (si w2 s2 4 (gi w2 s 4)) s2 5 (gi (si w2 s2 4 (gi w2 s 4)) s 5)) q j = gi ν q j := fun q j h1 h2 => by rw [k4 q j (by omega), k2 q j (by omega), e2 q j (by omega)]
  refine ⟨v3, ?_, ?_, F, fun q j => by rw [c3, gl_si, gl_si, l2, b3, gl_si, gl_si, a3]⟩
  · unfold So_copy
    rw [a1, Option.bind_some]
    unfold St_copy
    rw [show (0 : Int32) = nI 0 from rfl, b1, Option.bind_some, hw2]
    exact c1
  · have P1 : PCp (s2 + 1) (s + 1) v3 ν := PCp_dst a4 (fun q j q1 q2 => by rw [G q j (by omega) (by omega) (by omega), b2 q j (by omega), i1 q j (by omega)])
    obtain ⟨p0, p1, p2, p3, p7, pc, pk⟩ := P1
    refine ⟨fun q hq => ?_, ?_, ⟨fun i hi => ?_, fun i hi => ?_⟩, f, h5, ?_, fun i hi => ?_⟩
    · have hq2 := h1 q hq
      rcases plCases q hq with rfl | rfl | rfl | rfl | rfl | rfl | ⟨c, hc, rfl⟩ | ⟨c, hc, rfl⟩ | ⟨c, hc, rfl⟩ | hR
      · rw [← hq2]; exact p0
      · rw [← hq2]
        show gi v3 (s2 + 5) 2 = gi ν (s + 5) 2
        rw [G _ _ (by omega) (by omega) (by omega), b2 _ _ (by omega), gi_si_s, gi_si_q _ _ _ _ (by omega), a2 _ _ (by omega)]
      · rw [← hq2]; exact p1
      · rw [← hq2]; exact p2
      · rw [← hq2]; exact p3
      · rw [← hq2]; exact p7
      · rw [← hq2]; exact (pc c hc).1
      · rw [← hq2]; exact (pc c hc).2
      · rw [← hq2]; exact pk c hc
      · rw [← hq2]
        rcases hR with ⟨-, e⟩ | ⟨-, e⟩ | ⟨-, e⟩ | ⟨-, e⟩ | ⟨-, e⟩ | ⟨-, e⟩ | ⟨c, hc, rfl⟩ | ⟨c, hc, rfl⟩ | ⟨c, hc, rfl⟩
        · rw [e]; show gi v3 s2 5 = gi ν s 5
          rw [c2 _ _ (by omega) (by omega), gi_si_s, gi_si_q _ _ _ _ (by omega), k2 _ _ (by omega), e2 _ _ (by omega)]
        · rw [e]; show gi v3 s2 6 = gi ν s 6
          rw [c4, src _ _ (by omega) (by omega)]
        · rw [e]; show gi v3 s2 4 = gi ν s 4
          rw [c2 _ _ (by omega) (by omega), gi_si_j _ _ _ (by omega), gi_si_s, k2 _ _ (by omega), e2 _ _ (by omega)]
        · rw [e]; show gi v3 (s2 + 129) 1 = gi ν (s + 129) 1
          rw [c6, src _ _ (by omega) (by omega)]
        · rw [e]; show gi v3 (s2 + 131) 1 = gi ν (s + 131) 1
          rw [c7, src _ _ (by omega) (by omega)]
        · rw [e]; show gi v3 (s2 + 133) 1 = gi ν (s + 133) 1
          rw [c8, src _ _ (by omega) (by omega)]
        · show gi v3 (s2 + 127) c = gi ν (s + 127) c
          rw [c2 _ _ (by omega) (by omega), k4 _ _ (by omega), k127 c hc, e2 _ _ (by omega)]
        · show gi v3 (s2 + 128) c = gi ν (s + 128) c
          rw [c2 _ _ (by omega) (by omega), k4 _ _ (by omega), k128 c hc, e2 _ _ (by omega)]
        · show gi v3 (s2 + 130) c = gi ν (s + 130) c
          rw [c9 c hc, src _ _ (by omega) (by omega)]
    · unfold RX; rw [c5, src _ _ (by omega) (by omega)]; exact h2
    · rw [c10 i hi, src _ _ (by omega) (by omega)]; exact h3 i hi
    · rw [c11 i hi, src _ _ (by omega) (by omega)]; exact h34 i hi
    · rw [G _ _ (by omega) (by omega) (by omega), b2 _ _ (by omega), gi_si_j _ _ _ (by omega), gi_si_s, a2 _ _ (by omega)]; exact h6
    · have hat : (f + i) % 30 < 30 := Nat.mod_lt _ (by decide)
      exact SX1_PC (h7 i hi) (PCp_dst (b4 i (by omega) hi) (fun q j q1 q2 => G q j (by omega) (by omega) (by omega)))
theorem Ex_keep {τ : Ex} {a : Nat → Nat} {ν ν2 : Nm} (h : τ.1 a ν) (k : ∀ q j, dx q → gi ν2 q j = gi ν q j) (kl : ∀ q j, dx q → gl ν2 q j = gl ν q j) : τ.1 a ν2 := τ.2 a a ν ν2 h (fun _ _ => rfl) k kl
theorem md_copy_fr {x0 x1 : Nat} (hne : x0 ≠ x1) (ν : Nm) : ∃ ν3, Md_copy x0 x1 ν = some ν3 ∧ (∀ q j, q ≠ x1 → gi ν3 q j = gi ν q j) ∧ (∀ j, j < 1385 → gi ν3 x1 j = gi ν x0 j) ∧ ∀ q j, gl ν3 q j = gl ν q j := by
  obtain ⟨ν3, h1, h2, h3, h4⟩ := Md_copy_eq x0 x1 hne ν
  exact ⟨ν3, h1, fun q j hq => h2 q j (fun e => hq e.1), h3, fun q j => by unfold gl; rw [h4]⟩
theorem st_image {a b : Nat → Nat} {τ : Ex} {ν : Nm} (h : Inv a b τ ν) : Step τ Fm_image Md_image ν := by
  obtain ⟨w1, w2, c1, c2, m1, m2, t, ⟨h0, h1, h3⟩, o2, ⟨n, n1, n2, n3⟩, o4, o5, o6⟩ := id h
  obtain ⟨ν1, p1, p2, p3, p4⟩ := so_copy (Or.inl ⟨rfl, rfl⟩) c1 (wb w1).2.2.2.2.2.1
  obtain ⟨ν2, q1, q2, q3, q4⟩ := md_copy_fr (x0 := 314) (x1 := 315) (by decide) ν1
  have k : ∀ q j, (q < 136 ∨ 271 ≤ q) → q ≠ 315 → gi ν2 q j = gi ν q j := fun q j h1 h2 => by rw [q2 q j h2, p3 q j (by omega)]
  refine ⟨nI (a 8), ν1, ν2, a, a, ?_, ?_, w1, w1, CX_keep c1 (fun q j _ _ => k q j (by omega) (by omega)), CX_keep p2 (fun q j _ _ => q2 q j (by omega)), MX_keep m1 (fun j => k _ _ (by omega) (by omega)), ⟨fun j j1 j2 => ?_, ?_⟩, Ex_keep t (fun q j hq => k q j (by unfold dx at hq; omega) (by unfold dx at hq; omega)) (fun q j _ => by rw [q4, p4]), ⟨Nat.le_refl _, Nat.le_refl _, fun _ _ _ => rfl⟩, by rw [k _ _ (by omega) (by omega)]; exact o2, ⟨n, n1, by rw [k _ _ (by omega) (by omega)]; exact n2, by rw [k _ _ (by omega) (by omega)]; exact n3⟩, fun i hi => ?_, by rw [k _ _ (by omega) (by omega), k _ _ (by omega) (by omega)]; exact o5, by rw [k _ _ (by omega) (by omega), k _ _ (by omega) (by omega)]; exact o6⟩
  · unfold Fm_image
    rw [p1, Option.bind_some, p3 _ _ (by omega), (cr (C1_0 h)).2.2.2.2.2.2.2.2.1]
  · unfold Md_image
    rw [q1, Option.bind_some, k _ _ (by omega) (by omega), m1.1 8 (by omega) (by omega)]
  · rw [q3 j j1, p3 _ _ (by omega)]; exact m1.1 j j1 j2
  · rw [q3 3 (by omega), p3 _ _ (by omega)]; exact m1.2
  · rw [k _ _ (by omega) (by omega), k _ _ (by omega) (by omega)]; exact o4 i hi
theorem m_forget2 : ∀ (k f i : Nat) (ν : Nm), i + k = 16 → k < f → ∃ ν2, Md_forget_2 f (nI i) ν = some ν2 ∧ (∀ q j, q ≠ 328 → gi ν2 q j = gi ν q j) ∧ (∀ q j, gl ν2 q j = gl ν q j) ∧ (∀ j, j < i → gi ν2 328 j = gi ν 328 j) ∧ ∀ j, i ≤ j → j < 16 → gi ν2 328 j = -1 := by
  intro k
  induction k with
  | zero =>
    intro f i ν hi hf
    obtain ⟨f, rfl⟩ := fsucc hf
    exact ⟨ν, by rw [Md_forget_2, if_pos (by rw [show (16 : Int32) = nI 16 from rfl, nI_le' (by omega) (by omega)]; omega)], fun _ _ _ => rfl, fun _ _ => rfl, fun _ _ => rfl, fun j _ _ => by omega⟩
  | succ k ih =>
    intro f i ν hi hf
    obtain ⟨f, rfl⟩ := fsucc hf
    obtain ⟨ν2, p1, p2, p3, p4, p5⟩ := ih f (i + 1) (si ν 328 i (-1)) (by omega) (by omega)
    refine ⟨ν2, ?_, fun q j hq => by rw [p2 q j hq, gi_si_q _ _ _ _ hq], fun q j => by rw [p3, gl_si], fun j hj => by rw [p4 j (by omega), gi_si_j _ _ _ (by omega)], fun j j1 j2 => ?_⟩
    · rw [Md_forget_2, if_neg (by rw [show (16 : Int32) = nI 16 from rfl, nI_le' (by omega) (by omega)]; omega), inb_nI (by omega), nI_clamp (by omega), if_pos (by simp; omega), show (1 : Int32) = nI 1 from rfl, nI_add]
      exact p1
    · by_cases e : j = i
      · subst e; rw [p4 j (by omega), gi_si_s]
      · exact p5 j (by omega) j2
theorem m_forget (ν : Nm) : ∃ ν2, Md_forget ν = some ν2 ∧ (∀ q j, q ≠ 328 → gi ν2 q j = gi ν q j) ∧ (∀ q j, gl ν2 q j = gl ν q j) ∧ ∀ j, j < 16 → gi ν2 328 j = -1 := by
  obtain ⟨ν2, p1, p2, p3, p4, p5⟩ := m_forget2 16 FU 0 ν (by omega) (by unfold FU; omega)
  exact ⟨ν2, p1, p2, p3, fun j hj => p5 j (by omega) hj⟩
/-- what going back asks of the predicate on texts and rows -/
def ExB (τ : Ex) : Prop := ∀ (a b : Nat → Nat) (ν ν2 : Nm), WF a → WF b → τ.1 a ν → (b 0 ≤ a 0 ∧ b 2 ≤ a 2 ∧ ∀ c, c < 4 → c < b 0 → b (20 + 2 * c) = a (20 + 2 * c)) → (∀ q j, dx q → q ≠ 328 → gi ν2 q j = gi ν q j) → (∀ q j, dx q → gl ν2 q j = gl ν q j) → (∀ j, j < 16 → gi ν2 328 j = -1) → τ.1 b ν2
theorem st_back {a b : Nat → Nat} {τ : Ex} (hτ : ExB τ) {ν : Nm} (h : Inv a b τ ν) : Step τ Fm_back Md_back ν := by
  obtain ⟨w1, w2, c1, c2, m1, m2, t, ho, o2, ⟨n, n1, n2, n3⟩, o4, o5, o6⟩ := id h
  obtain ⟨ν1, p1, p2, p3, p4⟩ := so_copy (Or.inr ⟨rfl, rfl⟩) c2 (wb w2).2.2.2.2.2.1
  obtain ⟨ν2, q1, q2, q3, q4⟩ := md_copy_fr (x0 := 315) (x1 := 314) (by decide) ν1
  obtain ⟨ν3, r1, r2, r3, r4⟩ := m_forget ν2
  have k : ∀ q j, 136 ≤ q → q ≠ 314 → q ≠ 328 → gi ν3 q j = gi ν q j := fun q j h1 h2 h3 => by rw [r2 q j h3, q2 q j h2, p3 q j (by omega)]
  have mm : MX 314 b ν3 := ⟨fun j j1 j2 => by rw [r2 _ _ (by omega), q3 j j1, p3 _ _ (by omega)]; exact m2.1 j j1 j2, by rw [r2 _ _ (by omega), q3 3 (by omega), p3 _ _ (by omega)]; exact m2.2⟩
  have cc : CX 1 b ν1 := p2
  refine ⟨nI (b 8), ν1, ν3, b, b, ?_, ?_, w2, w2, CX_keep p2 (fun q j _ _ => by rw [r2 q j (by omega), q2 q j (by omega)]), CX_keep c2 (fun q j _ _ => k q j (by omega) (by omega) (by omega)), mm, MX_keep m2 (fun j => k _ _ (by omega) (by omega) (by omega)), hτ a b ν ν3 w1 w2 t ho (fun q j hq hn => k q j (by unfold dx at hq; omega) (by unfold dx at hq; omega) hn) (fun q j _ => by rw [r3, q4, p4]) r4, ⟨Nat.le_refl _, Nat.le_refl _, fun _ _ _ => rfl⟩, by rw [k _ _ (by omega) (by omega) (by omega)]; exact o2, ⟨n, n1, by rw [k _ _ (by omega) (by omega) (by omega)]; exact n2, by rw [k _ _ (by omega) (by omega) (by omega)]; exact n3⟩, fun i hi => ?_, by rw [k _ _ (by omega) (by omega) (by omega), k _ _ (by omega) (by omega) (by omega)]; exact o5, by rw [k _ _ (by omega) (by omega) (by omega), k _ _ (by omega) (by omega) (by omega)]; exact o6⟩
  · unfold Fm_back
    rw [p1, Option.bind_some]
    have : gi ν1 (1 + 1) 1 = nI (b 8) := p2.1 (8, 1, 1) (by decide)
    rw [this]
  · unfold Md_back
    rw [q1, Option.bind_some, r1, Option.bind_some, mm.1 8 (by omega) (by omega)]
  · rw [k _ _ (by omega) (by omega) (by omega), k _ _ (by omega) (by omega) (by omega)]; exact o4 i hi

/-! Tokens: the model's. -/
def TR (T : Nat) (t : Int32) (w : Int64) : Prop := (T = 131 ∧ t = nI 0) ∨ (T = 1 ∧ t = nI 1) ∨ (2 ≤ T ∧ T ≤ 26 ∧ t = nI 2 ∧ w = wI T) ∨ (T = 128 ∧ t = nI 4) ∨ (T = 129 ∧ t = nI 5) ∨ (sgC T = true ∧ t = nI T) ∨ (T = 0 ∧ (t = nI 3 ∨ t = nI 58 ∨ (t = nI 2 ∧ ∀ k, 2 ≤ k → k ≤ 26 → w ≠ wI k)))
def MTk (β : Nat → Nat) (n p : Nat) (ν : Nm) : Prop := TpM β n ν ∧ gi ν 313 8 = nI (tS β n p) ∧ (tT β n p ≠ 0 → gi ν 313 7 = nI (tE β n p)) ∧ (tT β n p = 1 → gi ν 313 10 = nI (tN β n p)) ∧ TR (tT β n p) (gi ν 313 9) (gl ν 313 11)
def frM (q j : Nat) : Prop := q = 313 ∧ 7 ≤ j ∧ j ≤ 11
theorem m_tok {β : Nat → Nat} {n p : Nat} {ν : Nm} (hp : p ≤ n) (hT : TpM β n ν) (h4 : gi ν 313 7 = nI p) : ∃ ν2, Md_nextToken ν = some ν2 ∧ MTk β n p ν2 ∧ Fr frM ν ν2 := by
  have hn := hT.1
  obtain ⟨h1, h2⟩ := skp_le β n 300 p hp
  have e0 : Md_nextToken ν = mtk (si ν 313 7 (nI (tS β n p))) := m_skip 300 FU p ν (by unfold FU; omega) hp (by omega) hT h4
  have hs : tS β n p = skp β n 300 p := rfl
  unfold MTk
  show ∃ ν2, Md_nextToken ν = some ν2 ∧ (TpM β n ν2 ∧ gi ν2 313 8 = nI (tS β n p) ∧ (tTs β n (tS β n p) ≠ 0 → gi ν2 313 7 = nI (tEs β n (tS β n p))) ∧ (tTs β n (tS β n p) = 1 → gi ν2 313 10 = nI (nmM β n 300 (tS β n p) 0)) ∧ TR (tTs β n (tS β n p)) (gi ν2 313 9) (gl ν2 313 11)) ∧ Fr frM ν ν2
  rw [e0]
  rw [← hs] at h1 h2
  clear e0 hs
  generalize tS β n p = s at *
  have hb := byt_le (β := β) (n := n) (p := s) (fun i hi => (hT.2.2 i hi).1) hn
  have f0 : Fr frM ν (si (si ν 313 7 (nI s)) 313 8 (nI s)) := Fr_si (Fr_si (Fr_rfl _ _) _ ⟨rfl, by omega, by omega⟩) _ ⟨rfl, by omega, by omega⟩
  have T0 : TpM β n (si (si ν 313 7 (nI s)) 313 8 (nI s)) := TpM_keep hT (f0.1 _ _ (by unfold frM; omega)) (fun i => f0.1 _ _ (by unfold frM; omega))
  have q7 : gi (si (si ν 313 7 (nI s)) 313 8 (nI s)) 313 7 = nI s := by rw [gi_si_j _ _ _ (by omega), gi_si_s]
  have q8 : gi (si (si ν 313 7 (nI s)) 313 8 (nI s)) 313 8 = nI s := gi_si_s _ _ _ _
  unfold mtk
  rw [gi_si_s, q7, m_byteAt T0 (by omega), Option.bind_some]
  generalize hν0 : si (si ν 313 7 (nI s)) 313 8 (nI s) = ν0 at *
  obtain ⟨-, -, -, b4⟩ := bl_all (byt β n s) (by omega)
  unfold tTs tEs
  have fin : ∀ (ν3 : Nm) (e T : Nat), Fr frM ν0 ν3 → gi ν3 313 8 = nI s → (T ≠ 0 → gi ν3 313 7 = nI e) → (T = 1 → gi ν3 313 10 = nI (nmM β n 300 s 0)) → TR T (gi ν3 313 9) (gl ν3 313 11) → (TpM β n ν3 ∧ gi ν3 313 8 = nI s ∧ (T ≠ 0 → gi ν3 313 7 = nI e) ∧ (T = 1 → gi ν3 313 10 = nI (nmM β n 300 s 0)) ∧ TR T (gi ν3 313 9) (gl ν3 313 11)) ∧ Fr frM ν ν3 :=
    fun ν3 e T hf g8 g7 g10 g9 => ⟨⟨TpM_keep T0 (hf.1 _ _ (by unfold frM; omega)) (fun i => hf.1 _ _ (by unfold frM; omega)), g8, g7, g10, g9⟩, Fr_tr f0 hf⟩
  by_cases c1 : byt β n s = 256
  · rw [if_neg (fun z => (b4.mp z) c1), if_pos c1, if_pos c1]
    refine ⟨_, rfl, fin _ s 131 (Fr_si (Fr_rfl _ _) _ ⟨rfl, by omega, by omega⟩) ?_ (fun _ => ?_) (fun h => by omega) (Or.inl ⟨rfl, gi_si_s _ _ _ _⟩)⟩
    · rw [gi_si_j _ _ _ (by omega)]; exact q8
    · rw [gi_si_j _ _ _ (by omega)]; exact q7
  rw [if_pos (b4.mpr c1), (dg_all (byt β n s) (by omega)).2, Option.bind_some, if_neg c1, if_neg c1]
  by_cases c3 : dgt (byt β n s) = true
  · have c2 : ¬ ltr (byt β n s) = true := fun z => by have := ltr_rng z; have := dgt_48 c3; omega
    rw [if_neg c2, if_neg c2, c3, Bool.true_and, decide_eq_true c1, if_neg (by rw [b2iT]; exact id), if_pos rfl, if_pos rfl]
    have fa : Fr frM ν0 (si (si ν0 313 9 1) 313 10 0) := Fr_si (Fr_si (Fr_rfl _ _) _ ⟨rfl, by omega, by omega⟩) _ ⟨rfl, by omega, by omega⟩
    have := m_num (β := β) (n := n) 300 FU s 0 (si (si ν0 313 9 1) 313 10 0) (by unfold FU; omega) h2 (by omega) (by omega) (TpM_keep T0 (fa.1 _ _ (by unfold frM; omega)) (fun i => fa.1 _ _ (by unfold frM; omega))) (by rw [gi_si_j _ _ _ (by omega), gi_si_j _ _ _ (by omega)]; exact q7) (gi_si_s _ _ _ _)
    rw [this]
    refine ⟨_, rfl, fin _ _ 1 (Fr_si (Fr_si fa _ ⟨rfl, by omega, by omega⟩) _ ⟨rfl, by omega, by omega⟩) ?_ (fun _ => gi_si_s _ _ _ _) (fun _ => ?_) (Or.inr (Or.inl ⟨rfl, ?_⟩))⟩
    · rw [gi_si_j _ _ _ (by omega), gi_si_j _ _ _ (by omega), gi_si_j _ _ _ (by omega), gi_si_j _ _ _ (by omega)]; exact q8
    · rw [gi_si_j _ _ _ (by omega), gi_si_s]
    · rw [gi_si_j _ _ _ (by omega), gi_si_j _ _ _ (by omega), gi_si_j _ _ _ (by omega), gi_si_s]; rfl
  rw [Bool.eq_false_iff.mpr c3, Bool.false_and, if_pos (by rw [b2iF]; exact True.intro), (lt_all (byt β n s) (by omega)).2, Option.bind_some]
  by_cases c2 : ltr (byt β n s) = true
  · rw [if_pos c2, if_pos c2, c2, if_neg (by rw [b2iT]; exact id)]
    have fa : Fr frM ν0 (sl (si ν0 313 9 2) 313 11 0) := Fr_sl (Fr_si (Fr_rfl _ _) _ ⟨rfl, by omega, by omega⟩) _ ⟨rfl, by omega, by omega⟩
    have := m_word168 (β := β) (n := n) 300 FU s 0 (sl (si ν0 313 9 2) 313 11 0) (by unfold FU; omega) h2 (by omega) (by omega) (TpM_keep T0 (fa.1 _ _ (by unfold frM; omega)) (fun i => fa.1 _ _ (by unfold frM; omega))) (by rw [gi_sl, gi_si_j _ _ _ (by omega)]; exact q7) (gl_sl_s _ _ _ _)
    rw [this]
    have hl := wdL_ltr β n 300 s
    refine ⟨_, rfl, fin _ _ _ (Fr_si (Fr_sl fa _ ⟨rfl, by omega, by omega⟩) _ ⟨rfl, by omega, by omega⟩) ?_ (fun _ => gi_si_s _ _ _ _) (fun h => ?_) ?_⟩
    · rw [gi_si_j _ _ _ (by omega), gi_sl, gi_sl, gi_si_j _ _ _ (by omega)]; exact q8
    · rcases tW_rng (wdL β n 300 s) with z | z <;> omega
    · rw [gi_si_j _ _ _ (by omega), gi_sl, gi_sl, gi_si_s, gl_si, gl_sl_s]
      rcases tW_rng (wdL β n 300 s) with z | ⟨z1, z2, z3⟩
      · refine Or.inr (Or.inr (Or.inr (Or.inr (Or.inr (Or.inr ⟨z, Or.inr (Or.inr ⟨rfl, fun k k1 k2 e => ?_⟩)⟩)))))
        have := (pkl_iff hl k1 k2).mp e
        omega
      · exact Or.inr (Or.inr (Or.inl ⟨z1, z2, rfl, (pkl_iff hl z1 z2).mpr rfl⟩))
  rw [if_neg c2, if_neg c2, if_neg Bool.false_ne_true, if_neg Bool.false_ne_true, Bool.eq_false_iff.mpr c2, if_pos (by rw [b2iF]; exact True.intro), enY_n (by omega), sg_all (byt β n s) (by omega), Option.bind_some]
  have hsn := byt_lt c1
  have hb2 := byt_le (β := β) (n := n) (p := s + 1) (fun i hi => (hT.2.2 i hi).1) hn
  have e61 : (enY (byt β n (s + 1)) = 61) = (byt β n (s + 1) = 61) := by
    apply propext
    by_cases z : byt β n (s + 1) = 256
    · rw [z]; decide
    · rw [enY_n (by omega), show (61 : Int32) = nI 61 from rfl, nI_eq' (by omega) (by omega)]
  -- a sign of one byte, and of two
  have go : ∀ x : Int32, Md_nextToken_247 (nI (byt β n s)) x ν0 = if two β n s = true then some (si (si (si (si ν0 313 9 x) 313 7 (nI (s + 1))) 313 9 (if byt β n s = 60 then nI 4 else nI 5)) 313 7 (nI (s + 2))) else some (si (si ν0 313 9 x) 313 7 (nI (s + 1))) := by
    intro x
    unfold Md_nextToken_247
    have e60 : (nI (byt β n s) = (60 : Int32)) = (byt β n s = 60) := nI_eq' (b := 60) (by omega) (by omega)
    have e62 : (nI (byt β n s) = (62 : Int32)) = (byt β n s = 62) := nI_eq' (b := 62) (by omega) (by omega)
    rw [gi_si_j _ _ _ (show (7 : Nat) ≠ 9 by omega), q7, show nI s + 1 = nI (s + 1) from nI_add s 1]
    simp only [e60, e62]
    have fa : Fr frM ν0 (si (si ν0 313 9 x) 313 7 (nI (s + 1))) := Fr_si (Fr_si (Fr_rfl _ _) _ ⟨rfl, by omega, by omega⟩) _ ⟨rfl, by omega, by omega⟩
    have T1 : TpM β n (si (si ν0 313 9 x) 313 7 (nI (s + 1))) := TpM_keep T0 (fa.1 _ _ (by unfold frM; omega)) (fun i => fa.1 _ _ (by unfold frM; omega))
    have o2 : Md_nextToken_272 (nI (byt β n s)) (si (si ν0 313 9 x) 313 7 (nI (s + 1))) = if byt β n (s + 1) = 61 then some (si (si (si (si ν0 313 9 x) 313 7 (nI (s + 1))) 313 9 (if byt β n s = 60 then nI 4 else nI 5)) 313 7 (nI (s + 2))) else some (si (si ν0 313 9 x) 313 7 (nI (s + 1))) := by
      unfold Md_nextToken_272 Md_nextToken_297
      rw [gi_si_s, m_byteAt T1 (by omega), Option.bind_some]
      simp only [e61]
      by_cases z : byt β n (s + 1) = 61
      · rw [if_neg (fun y => y z), if_pos z, gi_si_j _ _ _ (show (7 : Nat) ≠ 9 by omega), gi_si_s, show nI (s + 1) + 1 = nI (s + 2) from nI_add (s + 1) 1]
        by_cases y : byt β n s = 60
        · rw [if_neg (by rw [y]; exact fun k => k rfl), if_pos y, gi_si_j _ _ _ (show (7 : Nat) ≠ 9 by omega), gi_si_s, show nI (s + 1) + 1 = nI (s + 2) from nI_add (s + 1) 1]; rfl
        · rw [if_pos (by rw [show (60 : Int32) = nI 60 from rfl, nI_eq' (by omega) (by omega)]; exact y), if_neg y]; rfl
      · rw [if_pos z, if_neg z]
    rw [o2]
    unfold two
    by_cases y1 : byt β n s = 60
    · rw [if_pos y1, decide_eq_true y1, Bool.true_or, Bool.true_and]
      by_cases z : byt β n (s + 1) = 61
      · rw [if_pos z, decide_eq_true z, if_pos rfl]
      · rw [if_neg z, decide_eq_false z, if_neg (by decide)]
    · rw [if_neg y1, decide_eq_false y1, Bool.false_or]
      by_cases y2 : byt β n s = 62
      · rw [if_neg (fun k => k y2), decide_eq_true y2, Bool.true_and]
        by_cases z : byt β n (s + 1) = 61
        · rw [if_pos z, decide_eq_true z, if_pos rfl]
        · rw [if_neg z, decide_eq_false z, if_neg (by decide)]
      · rw [if_pos y2, decide_eq_false y2, Bool.false_and, if_neg (by decide)]
  have f1 : ∀ x : Int32, Fr frM ν0 (si (si ν0 313 9 x) 313 7 (nI (s + 1))) := fun x => Fr_si (Fr_si (Fr_rfl _ _) _ ⟨rfl, by omega, by omega⟩) _ ⟨rfl, by omega, by omega⟩
  by_cases c4 : sgC (byt β n s) = true
  · rw [c4, Bool.true_or, if_neg (by rw [b2iT]; exact id), if_pos rfl, if_pos rfl, go]
    by_cases c5 : two β n s = true
    · rw [if_pos c5, if_pos c5, if_pos c5]
      have ff : ∀ y : Int32, Fr frM ν0 (si (si (si (si ν0 313 9 (nI (byt β n s))) 313 7 (nI (s + 1))) 313 9 y) 313 7 (nI (s + 2))) := fun y => Fr_si (Fr_si (f1 _) _ ⟨rfl, by omega, by omega⟩) _ ⟨rfl, by omega, by omega⟩
      have g8 : ∀ y : Int32, gi (si (si (si (si ν0 313 9 (nI (byt β n s))) 313 7 (nI (s + 1))) 313 9 y) 313 7 (nI (s + 2))) 313 8 = nI s := fun y => by rw [gi_si_j _ _ _ (by omega), gi_si_j _ _ _ (by omega), gi_si_j _ _ _ (by omega), gi_si_j _ _ _ (by omega)]; exact q8
      by_cases c6 : byt β n s = 60
      · rw [if_pos c6, if_pos c6]
        exact ⟨_, rfl, fin _ _ 128 (ff _) (g8 _) (fun _ => gi_si_s _ _ _ _) (fun h => by omega) (Or.inr (Or.inr (Or.inr (Or.inl ⟨rfl, by rw [gi_si_j _ _ _ (by omega), gi_si_s]⟩))))⟩
      · rw [if_neg c6, if_neg c6]
        exact ⟨_, rfl, fin _ _ 129 (ff _) (g8 _) (fun _ => gi_si_s _ _ _ _) (fun h => by omega) (Or.inr (Or.inr (Or.inr (Or.inr (Or.inl ⟨rfl, by rw [gi_si_j _ _ _ (by omega), gi_si_s]⟩)))))⟩
    · rw [if_neg c5, if_neg c5, if_neg c5]
      refine ⟨_, rfl, fin _ _ _ (f1 _) ?_ (fun _ => gi_si_s _ _ _ _) (fun h => ?_) (Or.inr (Or.inr (Or.inr (Or.inr (Or.inr (Or.inl ⟨c4, by rw [gi_si_j _ _ _ (by omega), gi_si_s]⟩))))))⟩
      · rw [gi_si_j _ _ _ (by omega), gi_si_j _ _ _ (by omega)]; exact q8
      · have := sgC_rng c4; omega
  · have n2 : ¬ two β n s = true := by
      intro z
      apply c4
      unfold two at z
      rw [Bool.and_eq_true, Bool.or_eq_true, decide_eq_true_iff, decide_eq_true_iff] at z
      rcases z.1 with y | y <;> rw [y] <;> decide
    rw [if_neg c4, if_neg c4, Bool.eq_false_iff.mpr c4, Bool.false_or]
    by_cases c5 : byt β n s = 58
    · rw [decide_eq_true c5, if_neg (by rw [b2iT]; exact id), go, if_neg n2]
      refine ⟨_, rfl, fin _ s 0 (f1 _) ?_ (fun h => absurd rfl h) (fun h => by omega) (Or.inr (Or.inr (Or.inr (Or.inr (Or.inr (Or.inr ⟨rfl, Or.inr (Or.inl (by rw [gi_si_j _ _ _ (by omega), gi_si_s, c5]))⟩))))))⟩
      rw [gi_si_j _ _ _ (by omega), gi_si_j _ _ _ (by omega)]; exact q8
    · rw [decide_eq_false c5, if_pos (by rw [b2iF]; exact True.intro), go, if_neg n2]
      refine ⟨_, rfl, fin _ s 0 (f1 _) ?_ (fun h => absurd rfl h) (fun h => by omega) (Or.inr (Or.inr (Or.inr (Or.inr (Or.inr (Or.inr ⟨rfl, Or.inl (by rw [gi_si_j _ _ _ (by omega), gi_si_s]; rfl)⟩))))))⟩
      rw [gi_si_j _ _ _ (by omega), gi_si_j _ _ _ (by omega)]; exact q8

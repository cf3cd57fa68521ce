/-! Tokens: one function of the tape that class and model both follow. -/
def tS (β : Nat → Nat) (n p : Nat) : Nat := skp β n 300 p
def two (β : Nat → Nat) (n s : Nat) : Bool := (decide (byt β n s = 60) || decide (byt β n s = 62)) && decide (byt β n (s + 1) = 61)
def tTs (β : Nat → Nat) (n s : Nat) : Nat :=
  if byt β n s = 256 then 131 else if ltr (byt β n s) = true then tW (wdL β n 300 s) else if dgt (byt β n s) = true then 1
  else if sgC (byt β n s) = true then (if two β n s = true then (if byt β n s = 60 then 128 else 129) else byt β n s) else 0
def tEs (β : Nat → Nat) (n s : Nat) : Nat :=
  if byt β n s = 256 then s else if ltr (byt β n s) = true then wdE β n 300 s else if dgt (byt β n s) = true then nmE β n 300 s
  else if sgC (byt β n s) = true then (if two β n s = true then s + 2 else s + 1) else s
def tT (β : Nat → Nat) (n p : Nat) : Nat := tTs β n (tS β n p)
def tE (β : Nat → Nat) (n p : Nat) : Nat := tEs β n (tS β n p)
def tN (β : Nat → Nat) (n p : Nat) : Nat := nmM β n 300 (tS β n p) 0
theorem nmE_le (β : Nat → Nat) (n : Nat) : ∀ (d p : Nat), p ≤ n → p ≤ nmE β n d p ∧ nmE β n d p ≤ n := by
  intro d
  induction d with
  | zero => intro p h; exact ⟨Nat.le_refl _, h⟩
  | succ d ih =>
    intro p h
    unfold nmE
    by_cases q : dgt (byt β n p) = true
    · rw [if_pos q]
      have := dgt_48 q
      have hpn : p < n := by
        apply Nat.lt_of_not_le
        intro z
        unfold byt at this
        rw [if_neg (by omega)] at this
        omega
      have := ih (p + 1) (by omega)
      omega
    · rw [if_neg q]; omega
theorem byt_lt {β : Nat → Nat} {n p : Nat} (h : byt β n p ≠ 256) : p < n := by
  apply Nat.lt_of_not_le
  intro z
  apply h
  unfold byt
  rw [if_neg (by omega)]
theorem sg_ne : ∀ x, x < 256 → sgC x = true → 35 ≤ x ∧ x ≤ 62 := by decide +kernel
theorem sgC_rng {x : Nat} (h : sgC x = true) : 35 ≤ x ∧ x ≤ 62 := by
  unfold sgC at h
  have := of_decide_eq_true h
  omega
/-- where tokens stand -/
theorem tok_pos {β : Nat → Nat} {n p : Nat} (hp : p ≤ n) : p ≤ tS β n p ∧ tS β n p ≤ tE β n p ∧ tE β n p ≤ n ∧ (tT β n p ≠ 0 → tT β n p ≠ 131 → tS β n p < tE β n p) := by
  obtain ⟨h1, h2⟩ := skp_le β n 300 p hp
  show p ≤ tS β n p ∧ tS β n p ≤ tEs β n (tS β n p) ∧ tEs β n (tS β n p) ≤ n ∧ (tTs β n (tS β n p) ≠ 0 → tTs β n (tS β n p) ≠ 131 → tS β n p < tEs β n (tS β n p))
  have hs : tS β n p = skp β n 300 p := rfl
  rw [hs]
  generalize skp β n 300 p = s at *
  unfold tTs tEs
  by_cases c1 : byt β n s = 256
  · rw [if_pos c1, if_pos c1]; exact ⟨h1, Nat.le_refl _, h2, fun _ z => absurd rfl z⟩
  have hs := byt_lt c1
  rw [if_neg c1, if_neg c1]
  by_cases c2 : ltr (byt β n s) = true
  · rw [if_pos c2, if_pos c2]
    have e : wdE β n 300 s = wdE β n 299 (s + 1) := by show (if ltr (byt β n s) = true then wdE β n 299 (s + 1) else s) = _; rw [if_pos c2]
    have := wdE_le β n 299 (s + 1) hs
    rw [e]
    exact ⟨h1, by omega, by omega, fun _ _ => by omega⟩
  rw [if_neg c2, if_neg c2]
  by_cases c3 : dgt (byt β n s) = true
  · rw [if_pos c3, if_pos c3]
    have e : nmE β n 300 s = nmE β n 299 (s + 1) := by show (if dgt (byt β n s) = true then nmE β n 299 (s + 1) else s) = _; rw [if_pos c3]
    have := nmE_le β n 299 (s + 1) hs
    rw [e]
    exact ⟨h1, by omega, by omega, fun _ _ => by omega⟩
  rw [if_neg c3, if_neg c3]
  by_cases c4 : sgC (byt β n s) = true
  · rw [if_pos c4, if_pos c4]
    by_cases c5 : two β n s = true
    · rw [if_pos c5, if_pos c5]
      have h61 : byt β n (s + 1) = 61 := by
        unfold two at c5
        rw [Bool.and_eq_true] at c5
        exact of_decide_eq_true c5.2
      have := byt_lt (β := β) (n := n) (p := s + 1) (by omega)
      exact ⟨h1, by omega, by omega, fun _ _ => by omega⟩
    · rw [if_neg c5, if_neg c5]
      exact ⟨h1, by omega, by omega, fun _ _ => by omega⟩
  · rw [if_neg c4, if_neg c4]
    exact ⟨h1, Nat.le_refl _, h2, fun z => absurd rfl z⟩
/-- the class's token -/
def CTk (β : Nat → Nat) (n p : Nat) (ν : Nm) : Prop := TpC β n ν ∧ gi ν 271 4 = nI (tE β n p) ∧ gi ν 271 5 = nI (tT β n p) ∧ gi ν 271 6 = nI (tS β n p) ∧ (tT β n p = 1 → gi ν 271 7 = nI (min 10000 (tN β n p)))
def frT (q j : Nat) : Prop := q = 271 ∧ 4 ≤ j ∧ j ≤ 7
theorem c_tok {β : Nat → Nat} {n p : Nat} {ν : Nm} (hp : p ≤ n) (hT : TpC β n ν) (h4 : gi ν 271 4 = nI p) : ∃ ν2, Rd_next ν = some ν2 ∧ CTk β n p ν2 ∧ Fr frT ν ν2 ∧ gx ν2 = gx ν := by
  have hn := hT.1
  obtain ⟨h1, h2⟩ := skp_le β n 300 p hp
  have e0 : Rd_next ν = Rd_next_51 (si ν 271 4 (nI (tS β n p))) := c_skip 300 FU 0 p ν (by omega) (by unfold FU; omega) (by omega) hp (by omega) hT h4
  have hs : tS β n p = skp β n 300 p := rfl
  unfold CTk
  show ∃ ν2, Rd_next ν = some ν2 ∧ (TpC β n ν2 ∧ gi ν2 271 4 = nI (tEs β n (tS β n p)) ∧ gi ν2 271 5 = nI (tTs β n (tS β n p)) ∧ gi ν2 271 6 = nI (tS β n p) ∧ (tTs β n (tS β n p) = 1 → gi ν2 271 7 = nI (min 10000 (nmM β n 300 (tS β n p) 0)))) ∧ Fr frT ν ν2 ∧ gx ν2 = gx ν
  rw [e0]
  rw [← hs] at h1 h2
  clear e0 hs
  generalize tS β n p = s at *
  have hb := byt_le (β := β) (n := n) (p := s) (fun i hi => (hT.2.2 i hi).1) hn
  have f0 : Fr frT ν (si (si ν 271 4 (nI s)) 271 6 (nI s)) := Fr_si (Fr_si (Fr_rfl _ _) _ ⟨rfl, by omega, by omega⟩) _ ⟨rfl, by omega, by omega⟩
  have T0 : TpC β n (si (si ν 271 4 (nI s)) 271 6 (nI s)) := TpC_keep hT (f0.1 _ _ (by unfold frT; omega)) (fun i => f0.1 _ _ (by unfold frT; omega))
  have q4 : gi (si (si ν 271 4 (nI s)) 271 6 (nI s)) 271 4 = nI s := by rw [gi_si_j _ _ _ (by omega), gi_si_s]
  have q6 : gi (si (si ν 271 4 (nI s)) 271 6 (nI s)) 271 6 = nI s := gi_si_s _ _ _ _
  unfold Rd_next_51
  rw [gi_si_s, q4, c_byteAt T0 (by omega), Option.bind_some]
  generalize hν0 : si (si ν 271 4 (nI s)) 271 6 (nI s) = ν0 at *
  have x0 : gx ν0 = gx ν := by rw [← hν0]; rfl
  obtain ⟨-, -, b3, -⟩ := bl_all (byt β n s) (by omega)
  unfold tTs tEs
  have fin : ∀ (ν3 : Nm) (e T : Nat), Fr frT ν0 ν3 → gx ν3 = gx ν0 → gi ν3 271 4 = nI e → gi ν3 271 6 = nI s → (T = 1 → gi ν3 271 7 = nI (min 10000 (nmM β n 300 s 0))) → (TpC β n (si ν3 271 5 (nI T)) ∧ gi (si ν3 271 5 (nI T)) 271 4 = nI e ∧ gi (si ν3 271 5 (nI T)) 271 5 = nI T ∧ gi (si ν3 271 5 (nI T)) 271 6 = nI s ∧ (T = 1 → gi (si ν3 271 5 (nI T)) 271 7 = nI (min 10000 (nmM β n 300 s 0)))) ∧ Fr frT ν (si ν3 271 5 (nI T)) ∧ gx (si ν3 271 5 (nI T)) = gx ν := by
    intro ν3 e T hf hx g4 g6 g7
    have hf2 : Fr frT ν0 (si ν3 271 5 (nI T)) := Fr_si hf _ ⟨rfl, by omega, by omega⟩
    refine ⟨⟨TpC_keep T0 (hf2.1 _ _ (by unfold frT; omega)) (fun i => hf2.1 _ _ (by unfold frT; omega)), ?_, gi_si_s _ _ _ _, ?_, fun h => ?_⟩, Fr_tr f0 hf2, by rw [gx_si, hx, x0]⟩
    · rw [gi_si_j _ _ _ (by omega)]; exact g4
    · rw [gi_si_j _ _ _ (by omega)]; exact g6
    · rw [gi_si_j _ _ _ (by omega)]; exact g7 h
  by_cases c1 : byt β n s = 256
  · rw [if_neg (fun z => z (b3.mpr c1)), if_pos c1, if_pos c1]
    exact ⟨_, rfl, fin ν0 s 131 (Fr_rfl _ _) rfl q4 q6 (fun h => by omega)⟩
  rw [if_pos (fun z => c1 (b3.mp z)), (lt_all (byt β n s) (by omega)).1, Option.bind_some, if_neg c1, if_neg c1]
  by_cases c2 : ltr (byt β n s) = true
  · rw [c2, if_neg (by rw [b2iT]; exact id), if_pos rfl, if_pos rfl, c_word h2 T0 q4 q6, Option.bind_some]
    refine ⟨_, rfl, fin _ _ _ (Fr_si (Fr_rfl _ _) _ ⟨rfl, by omega, by omega⟩) rfl (gi_si_s _ _ _ _) (by rw [gi_si_j _ _ _ (by omega)]; exact q6) (fun h => ?_)⟩
    rcases tW_rng (wdL β n 300 s) with z | z <;> omega
  rw [if_neg c2, if_neg c2, Bool.eq_false_iff.mpr c2, if_pos (by rw [b2iF]; exact True.intro), (dg_all (byt β n s) (by omega)).1, Option.bind_some]
  by_cases c3 : dgt (byt β n s) = true
  · rw [c3, Bool.true_and, decide_eq_true c1, if_neg (by rw [b2iT]; exact id), if_pos rfl, if_pos rfl, c_figs h2 T0 q4, Option.bind_some]
    refine ⟨_, rfl, fin _ _ 1 (Fr_si (Fr_si (Fr_rfl _ _) _ ⟨rfl, by omega, by omega⟩) _ ⟨rfl, by omega, by omega⟩) rfl (gi_si_s _ _ _ _) (by rw [gi_si_j _ _ _ (by omega), gi_si_j _ _ _ (by omega)]; exact q6) (fun h => ?_)⟩
    rw [gi_si_j _ _ _ (by omega), gi_si_s, nm_CM β n 300 s 0 0 rfl]
  rw [if_neg c3, if_neg c3, Bool.eq_false_iff.mpr c3, Bool.false_and, if_pos (by rw [b2iF]; exact True.intro), enY_n (by omega)]
  unfold Rd_nextSign
  obtain ⟨v, v1, v2⟩ := c_ix (x := byt β n s) (by omega)
  rw [v1, Option.bind_some]
  by_cases c4 : sgC (byt β n s) = true
  · rw [if_pos (v2.mpr c4), if_pos c4, if_pos c4]
    have T1 : TpC β n (si ν0 271 4 (nI (s + 1))) := TpC_keep T0 (gi_si_j _ _ _ (by omega)) (fun i => gi_si_q _ _ _ _ (by omega))
    have hb2 := byt_le (β := β) (n := n) (p := s + 1) (fun i hi => (hT.2.2 i hi).1) hn
    have hsn := byt_lt c1
    have e61 : (enY (byt β n (s + 1)) = 61) = (byt β n (s + 1) = 61) := by
      apply propext
      by_cases z : byt β n (s + 1) = 256
      · rw [z]; decide
      · rw [enY_n (by omega), show (61 : Int32) = nI 61 from rfl, nI_eq' (by omega) (by omega)]
    have f1 : Fr frT ν0 (si ν0 271 4 (nI (s + 1))) := Fr_si (Fr_rfl _ _) _ ⟨rfl, by omega, by omega⟩
    have f2 : Fr frT ν0 (si ν0 271 4 (nI (s + 2))) := Fr_si (Fr_rfl _ _) _ ⟨rfl, by omega, by omega⟩
    have sg := sgC_rng c4
    have o1 : (some (nI (byt β n s), si ν0 271 4 (nI (s + 1)))).bind (fun v7 : Int32 × Nm => some (si v7.2 271 5 v7.1)) = some (si (si ν0 271 4 (nI (s + 1))) 271 5 (nI (byt β n s))) := rfl
    have o2 : Rd_nextSign_34 (nI (byt β n s)) (si ν0 271 4 (nI (s + 1))) = if byt β n (s + 1) = 61 then some (if byt β n s = 60 then nI 128 else nI 129, si ν0 271 4 (nI (s + 2))) else some (nI (byt β n s), si ν0 271 4 (nI (s + 1))) := by
      unfold Rd_nextSign_34
      rw [gi_si_s, c_byteAt T1 (by omega), Option.bind_some, si_si, show nI (s + 1) + 1 = nI (s + 2) from nI_add (s + 1) 1]
      simp only [e61]
      by_cases z : byt β n (s + 1) = 61
      · rw [if_neg (fun y => y z), if_pos z]
        by_cases y : byt β n s = 60
        · rw [if_neg (by rw [y]; exact fun k => k rfl), if_pos y]; rfl
        · rw [if_pos (by rw [show (60 : Int32) = nI 60 from rfl, nI_eq' (by omega) (by omega)]; exact y), if_neg y]; rfl
      · rw [if_pos z, if_neg z]
    have e60 : (nI (byt β n s) = (60 : Int32)) = (byt β n s = 60) := nI_eq' (b := 60) (by omega) (by omega)
    have e62 : (nI (byt β n s) = (62 : Int32)) = (byt β n s = 62) := nI_eq' (b := 62) (by omega) (by omega)
    rw [q4, show nI s + 1 = nI (s + 1) from nI_add s 1, o2]
    simp only [e60, e62]
    have g6a : gi (si ν0 271 4 (nI (s + 1))) 271 6 = nI s := by rw [gi_si_j _ _ _ (by omega)]; exact q6
    have g6b : gi (si ν0 271 4 (nI (s + 2))) 271 6 = nI s := by rw [gi_si_j _ _ _ (by omega)]; exact q6
    unfold two
    by_cases y1 : byt β n s = 60
    · rw [if_pos y1, decide_eq_true y1, Bool.true_or, Bool.true_and]
      by_cases z : byt β n (s + 1) = 61
      · rw [if_pos z, decide_eq_true z, if_pos rfl, if_pos rfl, if_pos y1, if_pos y1, Option.bind_some]
        exact ⟨_, rfl, fin _ _ 128 f2 rfl (gi_si_s _ _ _ _) g6b (fun h => by omega)⟩
      · rw [if_neg z, decide_eq_false z, if_neg (by decide), if_neg (by decide), o1]
        exact ⟨_, rfl, fin _ _ _ f1 rfl (gi_si_s _ _ _ _) g6a (fun h => by omega)⟩
    · rw [if_neg y1, decide_eq_false y1, Bool.false_or]
      by_cases y2 : byt β n s = 62
      · rw [if_neg (fun k => k y2), decide_eq_true y2, Bool.true_and]
        by_cases z : byt β n (s + 1) = 61
        · rw [if_pos z, decide_eq_true z, if_pos rfl, if_pos rfl, if_neg y1, if_neg y1, Option.bind_some]
          exact ⟨_, rfl, fin _ _ 129 f2 rfl (gi_si_s _ _ _ _) g6b (fun h => by omega)⟩
        · rw [if_neg z, decide_eq_false z, if_neg (by decide), if_neg (by decide), o1]
          exact ⟨_, rfl, fin _ _ _ f1 rfl (gi_si_s _ _ _ _) g6a (fun h => by omega)⟩
      · rw [if_pos y2, decide_eq_false y2, Bool.false_and, if_neg (by decide), if_neg (by decide), o1]
        exact ⟨_, rfl, fin _ _ _ f1 rfl (gi_si_s _ _ _ _) g6a (fun h => by omega)⟩
  · rw [if_neg (fun z => c4 (v2.mp z)), if_neg c4, if_neg c4, Option.bind_some]
    exact ⟨_, rfl, fin ν0 s 0 (Fr_rfl _ _) rfl q4 q6 (fun h => by omega)⟩

/-! The tape: the model's blanks; numbers. -/
def mtk (ν : Nm) : Option Nm :=
  (Md_byteAt (si ν 313 8 (gi ν 313 7)) (gi (si ν 313 8 (gi ν 313 7)) 313 7)).bind fun v5 =>
  (if 0 ≤ v5 then
    (Md_isFigure v5).bind fun v7 =>
    (if (b2i v7) = 0 then
      (Md_isLetterByte v5).bind fun v9 =>
      (if (b2i v9) = 0 then
        (Md_isSign v5).bind fun v11 =>
        (if (b2i v11) = 0 then
          Md_nextToken_247 v5 (3 : Int32) (si ν 313 8 (gi ν 313 7))
        else
          Md_nextToken_247 v5 v5 (si ν 313 8 (gi ν 313 7)))
      else
        Md_nextToken_168 FU (sl (si (si ν 313 8 (gi ν 313 7)) 313 9 (2 : Int32)) 313 11 (0 : Int64)))
    else
      Md_nextToken_85 FU (si (si (si ν 313 8 (gi ν 313 7)) 313 9 (1 : Int32)) 313 10 (0 : Int32)))
  else
    some (si (si ν 313 8 (gi ν 313 7)) 313 9 (0 : Int32)))
theorem m_skip {β : Nat → Nat} {n : Nat} : ∀ (d f p : Nat) (ν : Nm), d < f → p ≤ n → n ≤ p + d → TpM β n ν → gi ν 313 7 = nI p → Md_nextToken_0 f ν = mtk (si ν 313 7 (nI (skp β n d p))) := by
  intro d
  induction d with
  | zero =>
    intro f p ν hf h1 h2 hT hp
    obtain ⟨f, rfl⟩ := fsucc hf
    have hn := hT.1
    have e : byt β n p = 256 := by unfold byt; rw [if_neg (by omega)]
    show _ = mtk (si ν 313 7 (nI p))
    rw [si_id hp, Md_nextToken_0, hp, m_byteAt hT (by omega), Option.bind_some, Option.bind_some, e, if_neg (by decide), if_pos (by decide)]
    unfold mtk
    rw [hp]
  | succ d ih =>
    intro f p ν hf h1 h2 hT hp
    obtain ⟨f, rfl⟩ := fsucc hf
    have hn := hT.1
    have hb := byt_le (β := β) (n := n) (p := p) (fun i hi => (hT.2.2 i hi).1) hn
    obtain ⟨b1, b2, -, -⟩ := bl_all (byt β n p) (by omega)
    have st : Md_nextToken_26 (Md_nextToken_0 f) ν = Md_nextToken_0 f (si ν 313 7 (nI (p + 1))) := by
      unfold Md_nextToken_26
      rw [hp, show nI p + 1 = nI (p + 1) from nI_add p 1]
    have go : blk (byt β n p) = true → Md_nextToken_0 f (si ν 313 7 (nI (p + 1))) = mtk (si ν 313 7 (nI (skp β n (d + 1) p))) := by
      intro q
      have hpn : p < n := by
        apply Nat.lt_of_not_le
        intro z
        unfold byt at q
        rw [if_neg (by omega)] at q
        revert q
        decide
      rw [ih f (p + 1) (si ν 313 7 (nI (p + 1))) (by omega) (by omega) (by omega) (TpM_keep hT (gi_si_j _ _ _ (by omega)) (fun i => gi_si_q _ _ _ _ (by omega))) (gi_si_s _ _ _ _), si_si]
      have : skp β n (d + 1) p = skp β n d (p + 1) := by show (if blk (byt β n p) = true then skp β n d (p + 1) else p) = _; rw [if_pos q]
      rw [this]
    rw [Md_nextToken_0]
    rw [show (Md_byteAt ν (gi ν 313 7)) = some (enY (byt β n p)) by rw [hp]; exact m_byteAt hT (by omega), Option.bind_some, Option.bind_some]
    by_cases q1 : byt β n p = 32
    · rw [if_pos (b1.mpr q1), st]
      exact go (by unfold blk; rw [q1]; rfl)
    · rw [if_neg (fun z => q1 (b1.mp z))]
      by_cases q2 : byt β n p = 10
      · rw [if_neg (fun z => z (b2.mpr q2)), st]
        exact go (by unfold blk; rw [q2]; rfl)
      · rw [if_pos (fun z => q2 (b2.mp z))]
        have : skp β n (d + 1) p = p := by
          show (if blk (byt β n p) = true then skp β n d (p + 1) else p) = p
          rw [if_neg]
          unfold blk
          rw [decide_eq_false q1, decide_eq_false q2]
          decide
        rw [this, si_id hp]
        rfl
/-- digits from a place on: where they end, what they say (as the model, as the class) -/
def nmE (β : Nat → Nat) (n : Nat) : Nat → Nat → Nat
  | 0, p => p
  | d + 1, p => if dgt (byt β n p) = true then nmE β n d (p + 1) else p
def nmM (β : Nat → Nat) (n : Nat) : Nat → Nat → Nat → Nat
  | 0, _, v => v
  | d + 1, p, v => if dgt (byt β n p) = true then nmM β n d (p + 1) (if v ≤ 99999 then 10 * v + byt β n p - 48 else v) else v
def nmC (β : Nat → Nat) (n : Nat) : Nat → Nat → Nat → Nat
  | 0, _, v => v
  | d + 1, p, v => if dgt (byt β n p) = true then nmC β n d (p + 1) (min 10000 (v * 10 + byt β n p - 48)) else v
theorem dgt_48 {x : Nat} (h : dgt x = true) : 48 ≤ x ∧ x ≤ 57 := by
  unfold dgt at h
  rw [Bool.and_eq_true, decide_eq_true_iff, decide_eq_true_iff] at h
  exact h
theorem nm_CM (β : Nat → Nat) (n : Nat) : ∀ (d p v c : Nat), c = min 10000 v → nmC β n d p c = min 10000 (nmM β n d p v) := by
  intro d
  induction d with
  | zero => intro p v c h; exact h
  | succ d ih =>
    intro p v c h
    unfold nmC nmM
    by_cases q : dgt (byt β n p) = true
    · rw [if_pos q, if_pos q]
      have := dgt_48 q
      apply ih
      by_cases z : v ≤ 99999
      · rw [if_pos z]; omega
      · rw [if_neg z]; omega
    · rw [if_neg q, if_neg q]; exact h
theorem nmM_le (β : Nat → Nat) (n : Nat) : ∀ (d p v : Nat), v ≤ 999999 → nmM β n d p v ≤ 999999 := by
  intro d
  induction d with
  | zero => intro p v h; exact h
  | succ d ih =>
    intro p v h
    unfold nmM
    by_cases q : dgt (byt β n p) = true
    · rw [if_pos q]
      have := dgt_48 q
      apply ih
      by_cases z : v ≤ 99999
      · rw [if_pos z]; omega
      · rw [if_neg z]; exact h
    · rw [if_neg q]; exact h
theorem m_num {β : Nat → Nat} {n : Nat} : ∀ (d f p v : Nat) (ν : Nm), d < f → p ≤ n → n ≤ p + d → v ≤ 999999 → TpM β n ν → gi ν 313 7 = nI p → gi ν 313 10 = nI v → Md_nextToken_85 f ν = some (si (si ν 313 10 (nI (nmM β n d p v))) 313 7 (nI (nmE β n d p))) := by
  intro d
  induction d with
  | zero =>
    intro f p v ν hf h1 h2 hv hT hp hv2
    obtain ⟨f, rfl⟩ := fsucc hf
    have hn := hT.1
    have e : byt β n p = 256 := by unfold byt; rw [if_neg (by omega)]
    show _ = some (si (si ν 313 10 (nI v)) 313 7 (nI p))
    rw [si_id hv2, si_id hp, Md_nextToken_85, hp, m_byteAt hT (by omega), Option.bind_some, e, (dg_all 256 (by omega)).2, Option.bind_some]
    rfl
  | succ d ih =>
    intro f p v ν hf h1 h2 hv hT hp hv2
    obtain ⟨f, rfl⟩ := fsucc hf
    have hn := hT.1
    have hb := byt_le (β := β) (n := n) (p := p) (fun i hi => (hT.2.2 i hi).1) hn
    have dd := (dg_all (byt β n p) (by omega)).2
    rw [Md_nextToken_85, hp, m_byteAt hT (by omega), Option.bind_some, dd, Option.bind_some, Option.bind_some, hv2]
    unfold nmM nmE
    by_cases q : dgt (byt β n p) = true
    · have q2 := dgt_48 q
      have hpn : p < n := by
        apply Nat.lt_of_not_le
        intro z
        unfold byt at q2
        rw [if_neg (by omega)] at q2
        omega
      have st : ∀ w, w ≤ 999999 → Md_nextToken_135 (Md_nextToken_85 f) (nI w) ν = some (si (si ν 313 10 (nI (nmM β n d (p + 1) w))) 313 7 (nI (nmE β n d (p + 1)))) := by
        intro w hw
        unfold Md_nextToken_135
        rw [gi_si_j _ _ _ (by omega), hp, show nI p + 1 = nI (p + 1) from nI_add p 1, ih f (p + 1) w (si (si ν 313 10 (nI w)) 313 7 (nI (p + 1))) (by omega) (by omega) (by omega) hw (TpM_keep hT (by rw [gi_si_j _ _ _ (by omega), gi_si_j _ _ _ (by omega)]) (fun i => by rw [gi_si_q _ _ _ _ (by omega), gi_si_q _ _ _ _ (by omega)])) (gi_si_s _ _ _ _) (by rw [gi_si_j _ _ _ (by omega), gi_si_s])]
        congr 1
        unfold si va_up upd
        refine Prod.ext ?_ rfl
        funext q3 j3
        by_cases e1 : q3 = 313
        · subst e1
          by_cases e2 : j3 = 7
          · simp [e2]
          · by_cases e3 : j3 = 10
            · simp [e3]
            · simp [e2, e3]
        · simp [e1]
      rw [q, Bool.true_and, decide_eq_true (show byt β n p ≠ 256 by omega), if_neg (by rw [b2iT]; exact id), if_pos rfl, if_pos rfl, enY_n (by omega)]
      by_cases z : v ≤ 99999
      · rw [if_pos (by rw [show (99999 : Int32) = nI 99999 from rfl, nI_le' (by omega) (by omega)]; exact z), if_pos z, show (10 : Int32) * nI v = nI (10 * v) from nI_mul 10 v, nI_add, show nI (10 * v + byt β n p) - 48 = nI (10 * v + byt β n p - 48) from nI_sub (b := 48) (by omega)]
        exact st _ (by omega)
      · rw [if_neg (by rw [show (99999 : Int32) = nI 99999 from rfl, nI_le' (by omega) (by omega)]; exact z), if_neg z]
        exact st _ hv
    · rw [Bool.eq_false_iff.mpr q, Bool.false_and, if_pos (by rw [b2iF]; exact True.intro), if_neg (by simp), if_neg (by simp), si_id hv2, si_id hp]

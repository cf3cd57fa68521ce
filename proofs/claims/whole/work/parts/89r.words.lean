/-! Tokens: words of the class and of the model. -/
def wsL : List Nat := [108, 105, 103, 104, 116, 115, 32, 102, 97, 105, 108, 115, 32, 99, 111, 114, 100, 32, 112, 114, 105, 99, 101, 32, 104, 97, 110, 100, 115, 32, 108, 101, 102, 116, 32, 114, 105, 103, 104, 116, 32, 115, 110, 117, 102, 102, 32, 114, 101, 110, 101, 119, 32, 98, 117, 114, 110, 32, 109, 105, 110, 117, 116, 101, 32, 116, 119, 111, 115, 32, 111, 117, 116, 32, 105, 102, 32, 116, 104, 101, 110, 32, 101, 108, 115, 101, 32, 101, 110, 100, 32, 111, 114, 32, 97, 110, 100, 32, 110, 111, 116, 32, 116, 105, 109, 101, 32, 114, 101, 115, 116, 32, 108, 111, 110, 103, 32, 108, 105, 116, 32, 115, 105, 100, 101, 32]
def sW (i : Nat) : Nat := wsL.getD i 0
def wtL : List (Nat × Nat × Nat) := [(2, 0, 6), (3, 7, 5), (4, 13, 4), (5, 18, 5), (6, 24, 5), (7, 30, 4), (8, 35, 5), (9, 41, 5), (10, 47, 5), (11, 53, 4), (12, 58, 6), (13, 65, 4), (14, 70, 3), (15, 74, 2), (16, 77, 4), (17, 82, 4), (18, 87, 3), (19, 91, 2), (20, 94, 3), (21, 98, 3), (22, 102, 4), (23, 107, 4), (24, 112, 4), (25, 117, 3), (26, 121, 4)]
theorem cha_all : ∀ i, i < 126 → Js_charAt 0 (nI i) = some (nI (sW i)) ∧ sW i < 256 := by decide +kernel
theorem cha_len : Js_length 0 = some (nI 126) := by decide +kernel
def wlA (b len : Nat) : List Nat := (List.range len).map (fun j => sW (b + j))
/-- letters from a place on -/
def wdL (β : Nat → Nat) (n : Nat) : Nat → Nat → List Nat
  | 0, _ => []
  | d + 1, p => if ltr (byt β n p) = true then byt β n p :: wdL β n d (p + 1) else []
theorem wdE_len (β : Nat → Nat) (n : Nat) : ∀ (d p : Nat), wdE β n d p = p + (wdL β n d p).length := by
  intro d
  induction d with
  | zero => intro p; rfl
  | succ d ih =>
    intro p
    unfold wdE wdL
    by_cases q : ltr (byt β n p) = true
    · rw [if_pos q, if_pos q, ih, List.length_cons]; omega
    · rw [if_neg q, if_neg q]; rfl
theorem wdE_le (β : Nat → Nat) (n : Nat) : ∀ (d p : Nat), p ≤ n → p ≤ wdE β n d p ∧ wdE β n d p ≤ n := by
  intro d
  induction d with
  | zero => intro p h; exact ⟨Nat.le_refl _, h⟩
  | succ d ih =>
    intro p h
    unfold wdE
    by_cases q : ltr (byt β n p) = true
    · rw [if_pos q]
      have := ltr_lt q
      have := ih (p + 1) (by omega)
      omega
    · rw [if_neg q]; omega
theorem wdL_get (β : Nat → Nat) (n : Nat) : ∀ (d p j : Nat), j < (wdL β n d p).length → (wdL β n d p).getD j 0 = byt β n (p + j) := by
  intro d
  induction d with
  | zero => intro p j h; exact absurd h (Nat.not_lt_zero _)
  | succ d ih =>
    intro p j h
    unfold wdL at h ⊢
    by_cases q : ltr (byt β n p) = true
    · rw [if_pos q] at h ⊢
      cases j with
      | zero => rfl
      | succ j =>
        rw [List.getD_cons_succ, ih (p + 1) j (by rw [List.length_cons] at h; omega)]
        congr 1; omega
    · rw [if_neg q] at h; exact absurd h (Nat.not_lt_zero _)
theorem wdL_ltr (β : Nat → Nat) (n : Nat) : ∀ (d p : Nat), ∀ x ∈ wdL β n d p, ltr x = true := by
  intro d
  induction d with
  | zero => intro p x h; cases h
  | succ d ih =>
    intro p x h
    unfold wdL at h
    by_cases q : ltr (byt β n p) = true
    · rw [if_pos q] at h
      rcases List.mem_cons.mp h with e | e
      · rw [e]; exact q
      · exact ih _ x e
    · rw [if_neg q] at h; cases h
theorem wl_eq {l : List Nat} {b len : Nat} : l = wlA b len ↔ (l.length = len ∧ ∀ j, j < len → l.getD j 0 = sW (b + j)) := by
  constructor
  · intro h
    subst h
    refine ⟨by unfold wlA; simp, fun j hj => ?_⟩
    unfold wlA
    rw [List.getD_eq_getElem?_getD, List.getElem?_map, List.getElem?_range hj]
    rfl
  · rintro ⟨h1, h2⟩
    unfold wlA
    apply List.ext_getElem
    · rw [h1]; simp
    · intro j j1 j2
      have := h2 j (by omega)
      rw [List.getD_eq_getElem?_getD, List.getElem?_eq_getElem j1] at this
      rw [List.getElem_map, List.getElem_range]
      exact this
theorem en_neg : ∀ y, y < 256 → (-1 : Int32) ≠ nI y := by decide +kernel
theorem enY_eq {x y : Nat} (hx : x ≤ 256) (hy : y < 256) : (enY x = nI y) ↔ x = y := by
  unfold enY
  by_cases q : x = 256
  · rw [if_pos q]
    exact ⟨fun z => absurd z (en_neg y hy), fun z => absurd z (by omega)⟩
  · rw [if_neg q, nI_eq' (by omega) (by omega)]
/-- the first word that is spelled -/
def nw (m : Nat → Nat → Bool) : Nat → Nat → Nat → Nat → Nat
  | 0, _, _, _ => 0
  | d + 1, k, b, i => if sW i = 32 then (if m b (i - b) = true then k else nw m d (k + 1) (i + 1) (i + 1)) else nw m d k b (i + 1)
def wF (m : Nat → Nat → Bool) : List (Nat × Nat × Nat) → Nat
  | [] => 0
  | r :: l => if m r.2.1 r.2.2 = true then r.1 else wF m l
set_option maxRecDepth 100000 in
theorem nw_eq (m : Nat → Nat → Bool) : nw m 126 2 0 0 = wF m wtL := by
  rfl
def lmA (l : List Nat) (b len : Nat) : Bool := decide (l = wlA b len)
/-- the word's token -/
def tW (l : List Nat) : Nat := wF (lmA l) wtL
/-- the class's search among the words: v says whether all signs of this word so far were the tape's -/
theorem c_word51 {β : Nat → Nat} {n s e : Nat} {l : List Nat} {ν : Nm} (hT : TpC β n ν) (h4 : gi ν 271 4 = nI e) (h6 : gi ν 271 6 = nI s) (hs : s ≤ e) (he : e ≤ n) (hl : l.length = e - s) (hg : ∀ j, j < e - s → l.getD j 0 = β (s + j)) : ∀ (d f k b i : Nat) (v : Bool), i + d = 126 → d < f → b ≤ i → (v = true ↔ ∀ j, j < i - b → byt β n (s + j) = sW (b + j)) → Rd_nextWord_51 f (nI k) (nI (s + (i - b))) (b2i v) (nI i) ν = some (nI (nw (lmA l) d k b i), ν) := by
  intro d
  induction d with
  | zero =>
    intro f k b i v hi hf hb hv
    obtain ⟨f, rfl⟩ := fsucc hf
    rw [Rd_nextWord_51, cha_len, Option.bind_some, if_pos (by rw [nI_le' (by omega) (by omega)]; omega)]
    rfl
  | succ d ih =>
    intro f k b i v hi hf hb hv
    obtain ⟨f, rfl⟩ := fsucc hf
    have hn := hT.1
    have c1 := cha_all i (by omega)
    have hby := byt_le (β := β) (n := n) (p := s + (i - b)) (fun i hi => (hT.2.2 i hi).1) hn
    have es : nI (s + (i - b)) + 1 = nI (s + (i + 1 - b)) := by
      rw [show s + (i + 1 - b) = s + (i - b) + 1 by omega]
      exact nI_add _ 1
    rw [Rd_nextWord_51, cha_len, Option.bind_some, if_neg (by rw [nI_le' (by omega) (by omega)]; omega), c1.1, Option.bind_some]
    unfold Rd_nextWord_117 Rd_nextWord_95 Rd_nextWord_96 Rd_nextWord_127 nw
    rw [show nI i + 1 = nI (i + 1) from nI_add i 1, show nI k + 1 = nI (k + 1) from nI_add k 1, es, h4, h6]
    have up : Rd_nextWord_51 f (nI (k + 1)) (nI s) 1 (nI (i + 1)) ν = some (nI (nw (lmA l) d (k + 1) (i + 1) (i + 1)), ν) := by
      have := ih f (k + 1) (i + 1) (i + 1) true (by omega) (by omega) (by omega) ⟨fun _ j hj => absurd hj (by omega), fun _ => rfl⟩
      rw [show s + (i + 1 - (i + 1)) = s by omega] at this
      exact this
    have lm : lmA l b (i - b) = true ↔ (v = true ∧ i - b = e - s) := by
      unfold lmA
      rw [decide_eq_true_iff, wl_eq, hv]
      constructor
      · rintro ⟨a1, a2⟩
        exact ⟨fun j hj => by unfold byt; rw [if_pos (by omega), ← hg j (by omega)]; exact a2 j hj, by omega⟩
      · rintro ⟨a1, a2⟩
        refine ⟨by omega, fun j hj => ?_⟩
        have := a1 j hj
        unfold byt at this
        rw [if_pos (by omega)] at this
        rw [hg j (by omega)]; exact this
    by_cases q : sW i = 32
    · rw [if_pos (by have := congrArg nI q; exact this), if_pos q]
      cases v with
      | false =>
        rw [if_pos (by rw [b2iF]; exact True.intro), if_neg (fun z => absurd (lm.mp z).1 (by decide))]
        exact up
      | true =>
        rw [if_neg (by rw [b2iT]; exact id)]
        by_cases z : i - b = e - s
        · rw [if_neg (by rw [show s + (i - b) = e by omega]; exact fun y => y rfl), if_pos (lm.mpr ⟨rfl, z⟩)]
        · rw [if_pos (by rw [nI_eq' (by omega) (by omega)]; omega), if_neg (fun y => z (lm.mp y).2)]
          exact up
    · rw [if_neg (by rw [show (32 : Int32) = nI 32 from rfl, nI_eq' (by omega) (by omega)]; exact q), if_neg q]
      cases v with
      | false =>
        rw [if_pos (by rw [b2iF]; exact True.intro)]
        exact ih f k b (i + 1) false (by omega) (by omega) (by omega) ⟨fun z => absurd z (by decide), fun z => absurd (hv.mpr (fun j hj => z j (by omega))) (by decide)⟩
      | true =>
        rw [if_neg (by rw [b2iT]; exact id), c_byteAt hT (by omega), Option.bind_some]
        have a := hv.mp rfl
        by_cases z : byt β n (s + (i - b)) = sW i
        · rw [if_neg (fun y => y ((enY_eq hby c1.2).mpr z))]
          refine ih f k b (i + 1) true (by omega) (by omega) (by omega) ⟨fun _ j hj => ?_, fun _ => rfl⟩
          by_cases w : j = i - b
          · rw [w, z, show b + (i - b) = i by omega]
          · exact a j (by omega)
        · rw [if_pos (fun y => z ((enY_eq hby c1.2).mp y))]
          refine ih f k b (i + 1) false (by omega) (by omega) (by omega) ⟨fun y => absurd y (by decide), fun y => absurd ?_ z⟩
          have := y (i - b) (by omega)
          rw [show b + (i - b) = i by omega] at this
          exact this
/-- the class reads a word -/
theorem c_word {β : Nat → Nat} {n p : Nat} {ν : Nm} (hp1 : p ≤ n) (hT : TpC β n ν) (hp : gi ν 271 4 = nI p) (h6 : gi ν 271 6 = nI p) : Rd_nextWord ν = some (nI (tW (wdL β n 300 p)), si ν 271 4 (nI (wdE β n 300 p))) := by
  have hn := hT.1
  have hw := wdE_le β n 300 p hp1
  have hl := wdE_len β n 300 p
  unfold Rd_nextWord
  rw [show (0 : Int32) = nI 0 from rfl, c_word2 300 FU 0 p ν (by omega) (by unfold FU; omega) hp1 (by omega) hT hp]
  unfold Rd_nextWord_39
  have hg : ∀ j, j < wdE β n 300 p - p → (wdL β n 300 p).getD j 0 = β (p + j) := fun j hj => by
    rw [wdL_get β n 300 p j (by omega)]
    unfold byt
    rw [if_pos (by omega)]
  have := c_word51 (ν := si ν 271 4 (nI (wdE β n 300 p))) (l := wdL β n 300 p) (TpC_keep hT (gi_si_j _ _ _ (by omega)) (fun i => gi_si_q _ _ _ _ (by omega))) (gi_si_s _ _ _ _) (by rw [gi_si_j _ _ _ (by omega)]; exact h6) hw.1 hw.2 (by omega) hg 126 FU 2 0 0 true (by omega) (by unfold FU; omega) (by omega) ⟨fun _ j hj => absurd hj (by omega), fun _ => rfl⟩
  rw [nw_eq] at this
  rw [gi_si_j _ _ _ (by omega), h6]
  exact this

theorem mlRL_9 : Cond.methodLink "FuseMinutesLaw" 9 yX11_init ∈ zTb := zmt1 25 rfl rfl
theorem mlRL_12 : Cond.methodLink "FuseMinutesLaw" 12 yX12_init ∈ zTb := zmt5 203 rfl rfl
theorem cwRL_7 : Cond.classLink "FuseMinutesLaw" 7 RX11 ∈ zTb ∧ Cond.instantiable RX11 7 ∈ zTb ∧ Cond.initialized RX11 ∈ zTb := ⟨zmt1 23 rfl rfl, zmt1 24 rfl rfl, zmt1 1 rfl rfl⟩
theorem cwRL_10 : Cond.classLink "FuseMinutesLaw" 10 RX12 ∈ zTb ∧ Cond.instantiable RX12 37 ∈ zTb ∧ Cond.initialized RX12 ∈ zTb := ⟨zmt5 201 rfl rfl, zmt5 202 rfl rfl, zmt1 11 rfl rfl⟩
theorem zma1 {w : Cond} (i : Nat) (h : tables_1_1[i]? = some w) : w ∈ lw_tbl := List.mem_append_right _ (List.mem_append_left _ (List.mem_of_getElem? h))
theorem zma2 {w : Cond} (i : Nat) (h : tables_1_2[i]? = some w) : w ∈ lw_tbl := List.mem_append_right _ (List.mem_append_right _ (List.mem_append_left _ (List.mem_of_getElem? h)))
theorem zma3 {w : Cond} (i : Nat) (h : tables_1_3[i]? = some w) : w ∈ lw_tbl := List.mem_append_right _ (List.mem_append_right _ (List.mem_append_right _ (List.mem_append_left _ (List.mem_of_getElem? h))))
theorem zma4 {w : Cond} (i : Nat) (h : tables_1_4[i]? = some w) : w ∈ lw_tbl := List.mem_append_right _ (List.mem_append_right _ (List.mem_append_right _ (List.mem_append_right _ (List.mem_append_left _ (List.mem_of_getElem? h)))))
theorem zma5 {w : Cond} (i : Nat) (h : tables_1_5[i]? = some w) : w ∈ lw_tbl := List.mem_append_right _ (List.mem_append_right _ (List.mem_append_right _ (List.mem_append_right _ (List.mem_append_right _ (List.mem_append_left _ (List.mem_of_getElem? h))))))
theorem zma6 {w : Cond} (i : Nat) (h : tables_1_6[i]? = some w) : w ∈ lw_tbl := List.mem_append_right _ (List.mem_append_right _ (List.mem_append_right _ (List.mem_append_right _ (List.mem_append_right _ (List.mem_append_right _ (List.mem_append_left _ (List.mem_of_getElem? h)))))))
theorem zma7 {w : Cond} (i : Nat) (h : tables_1_7[i]? = some w) : w ∈ lw_tbl := List.mem_append_right _ (List.mem_append_right _ (List.mem_append_right _ (List.mem_append_right _ (List.mem_append_right _ (List.mem_append_right _ (List.mem_append_right _ (List.mem_append_left _ (List.mem_of_getElem? h))))))))
theorem zma8 {w : Cond} (i : Nat) (h : tables_1_8[i]? = some w) : w ∈ lw_tbl := List.mem_append_right _ (List.mem_append_right _ (List.mem_append_right _ (List.mem_append_right _ (List.mem_append_right _ (List.mem_append_right _ (List.mem_append_right _ (List.mem_append_right _ (List.mem_of_getElem? h))))))))
theorem ls_three : Cond.laysStatic RX11 "THREES" "[I" ∈ lw_tbl := zma4 235 rfl
theorem ls_compact : Cond.laysStatic RJ0 "COMPACT_STRINGS" "Z" ∈ lw_tbl := zma2 195 rfl
theorem ls_fmt : Cond.laysStatic RJ3 "SIOOBE_FORMATTER" "Ljava/util/function/BiFunction;" ∈ lw_tbl := zma2 211 rfl
theorem ao_pit : Cond.arrayOver (.object RX2) ∈ lw_tbl := zma1 87 rfl
theorem ao_text : Cond.arrayOver (.object RX9) ∈ lw_tbl := zma1 209 rfl
theorem nf_in : zNf ∈ lw_tbl := zma4 234 rfl
theorem sr_0 : Cond.stringRef RX3 zS0 zTx0 ∈ lw_tbl := zma2 185 rfl
theorem sr_1 : Cond.stringRef RX3 zS1 zTx1 ∈ lw_tbl := zma3 8 rfl
theorem nm_in : ∀ q ∈ zNm, Cond.methodLinkNest q.1 q.2.1 q.2.2 "FuseMinutes" ∈ lw_tbl := List.forall_mem_cons.mpr ⟨zma1 33 rfl, List.forall_mem_cons.mpr ⟨zma1 39 rfl, List.forall_mem_cons.mpr ⟨zma1 88 rfl, List.forall_mem_cons.mpr ⟨zma1 167 rfl, List.forall_mem_cons.mpr ⟨zma2 43 rfl, List.forall_mem_cons.mpr ⟨zma2 62 rfl, List.forall_mem_cons.mpr ⟨zma3 140 rfl, List.forall_mem_cons.mpr ⟨zma4 206 rfl, List.forall_mem_cons.mpr ⟨zma5 76 rfl, fun _ h => absurd h List.not_mem_nil⟩⟩⟩⟩⟩⟩⟩⟩⟩
/-! The start: the memory that the constructors leave, the model's constructor, what the Statement gives, the walk from the law's entry. -/
def μ0 : Mm := (fun _ _ => 0, fun _ _ => 0, fun _ _ => none)
def μF : Mm := zclr (i_Fm (zclr μ0 0)) 313
/-- the memory with all cells made -/
def FM : Mm := i_Md μF
def ν1 : Nm := (FM.1, FM.2.1, 0)
def ν2 : Nm := si (si (si ν1 314 9 311) 314 1 2) 314 3 (-1)
def zrl (k : Nat) : Nat := if (zs k).1 < 20 then zn (zs k).1 else if (zs k).1 = 23 ∨ (zs k).1 = 24 then (zs k).2 else 0
theorem fm_ref : ∀ k, k < 333 → ∀ j, j < zrl k → (20 ≤ (zs k).1 ∨ zt (zs k).1 j = 2) → FM.2.2 k j = zrf 0 k j := by decide +kernel
theorem arrV_congr {c : ClassId} {n : Nat} {f f2 : Nat → Value} (h : ∀ j, j < n → f j = f2 j) : arrV c n f = arrV c n f2 := by
  have e : (fun j : Fin n => f j.val) = fun j : Fin n => f2 j.val := funext fun j => h j.val j.isLt
  unfold arrV
  rw [e]
theorem fm_at (g : GG) (k : Nat) (hk : k < 333) (H : Heap) (h : va_at (gD g) vwCl (gA g k, zE g FM k) H) : va_at (gD g) vwCl (gA g k, zE g (zem ν1) k) H := by
  have hr := fm_ref k hk
  unfold zE at h ⊢
  by_cases h20 : (zs k).1 = 20
  · rw [if_pos h20] at h ⊢; exact h
  rw [if_neg h20] at h ⊢
  by_cases h21 : (zs k).1 = 21
  · rw [if_pos h21] at h ⊢; exact h
  rw [if_neg h21] at h ⊢
  by_cases h22 : (zs k).1 = 22
  · rw [if_pos h22] at h ⊢; exact h
  rw [if_neg h22] at h ⊢
  by_cases h23 : (zs k).1 = 23
  · rw [if_pos h23] at h ⊢
    have e : vp_cell (gC g 3) ((zs k).2, .inr (.inr (.inr (.inr (fun j => (FM.2.2 k j).map (gA g)))))) = vp_cell (gC g 3) ((zs k).2, .inr (.inr (.inr (.inr (fun j => ((zem ν1).2.2 k j).map (gA g)))))) := by
      rw [vp_cell_q, vp_cell_q]
      refine arrV_congr (fun j hj => ?_)
      rw [hr j (by unfold zrl; rw [if_neg (by omega), if_pos (Or.inl h23)]; exact hj) (Or.inl (by omega))]
      rfl
    show H[gA g k]? = some (vp_cell _ _)
    rw [← e]
    exact h
  rw [if_neg h23] at h ⊢
  by_cases h24 : (zs k).1 = 24
  · rw [if_pos h24] at h ⊢
    have e : vp_cell (gC g 4) ((zs k).2, .inr (.inr (.inr (.inr (fun j => (FM.2.2 k j).map (gA g)))))) = vp_cell (gC g 4) ((zs k).2, .inr (.inr (.inr (.inr (fun j => ((zem ν1).2.2 k j).map (gA g)))))) := by
      rw [vp_cell_q, vp_cell_q]
      refine arrV_congr (fun j hj => ?_)
      rw [hr j (by unfold zrl; rw [if_neg (by omega), if_pos (Or.inr h24)]; exact hj) (Or.inl (by omega))]
      rfl
    show H[gA g k]? = some (vp_cell _ _)
    rw [← e]
    exact h
  rw [if_neg h24] at h ⊢
  have hki : (zs k).1 < 20 := by
    have key : ∀ k, k < 333 → (zs k).1 < 20 ∨ (20 ≤ (zs k).1 ∧ (zs k).1 ≤ 24) := by decide +kernel
    rcases key k hk with q | q
    · exact q
    · omega
  have e : zf g FM k (zs k).1 = zf g (zem ν1) k (zs k).1 := by
    unfold zf
    refine List.map_congr_left (fun j hj => ?_)
    have hj2 := List.mem_range.mp hj
    have hz : zt (zs k).1 j = 0 ∨ zt (zs k).1 j = 1 ∨ zt (zs k).1 j = 2 := by
      have key : ∀ k, k < 333 → ∀ j, j < zn (zs k).1 → zt (zs k).1 j = 0 ∨ zt (zs k).1 j = 1 ∨ zt (zs k).1 j = 2 := by decide +kernel
      exact key k hk j hj2
    rcases hz with q | q | q
    · rw [q]; rfl
    · rw [q]; rfl
    · rw [q]
      show va_rf ((FM.2.2 k j).map (gA g)) = va_rf (((zem ν1).2.2 k j).map (gA g))
      rw [hr j (by unfold zrl; rw [if_pos hki]; exact hj2) (Or.inr q)]
      rfl
  rw [← e]
  exact h
theorem zR_at {g : GG} {n : Nat} {μ μ2 : Mm} {U : State} {H : Heap} (h : ∀ k, k < n → ∀ H, va_at (gD g) vwCl (gA g k, zE g μ k) H → va_at (gD g) vwCl (gA g k, zE g μ2 k) H) (hR : zR g n μ U H) : zR g n μ2 U H := by
  have hlt : ∀ {μ : Mm} {i : Nat} {q : Nat × va_E}, (zW g n μ)[i]? = some q → i < n ∧ q = (gA g i, zE g μ i) := by
    intro μ i q hq
    have hi : i < n := by
      have := (List.getElem?_eq_some_iff.mp hq).1
      simpa [zW] using this
    exact ⟨hi, Option.some.inj (hq.symm.trans (zW_get g μ hi))⟩
  refine ⟨hR.1, fun i q hq => ?_, fun i j p q hp hq e => ?_, fun i q hq => ?_⟩
  · obtain ⟨hi, rfl⟩ := hlt hq
    exact h i hi H (hR.2.1 i _ (zW_get g μ hi))
  · obtain ⟨hi, rfl⟩ := hlt hp
    obtain ⟨hj, rfl⟩ := hlt hq
    exact hR.2.2.1 i j _ _ (zW_get g μ hi) (zW_get g μ hj) e
  · obtain ⟨hi, rfl⟩ := hlt hq
    exact hR.2.2.2 i (gA g i, zE g μ i) (zW_get g μ hi)
theorem z_at {g : GG} {d : Nat} {N : Nat × Nat} {M : MM} {n cl sl pc : Nat} {lv : List (Nat × Value)} {st : List Value} {μ μ2 : Mm} {F : FF} (h : ∀ k, k < n → ∀ H, va_at (gD g) vwCl (gA g k, zE g μ k) H → va_at (gD g) vwCl (gA g k, zE g μ2 k) H) (k : Z g d N M n cl sl pc lv st μ2 F) : Z g d N M n cl sl pc lv st μ F := fun p e s m args below meth c R H locs ls C Rl S L => k p e s m args below meth c R H locs ls C (zR_at h Rl) S L
theorem z_mono {g : GG} {d : Nat} {N : Nat × Nat} {M : MM} {n cl sl pc : Nat} {lv : List (Nat × Value)} {st : List Value} {μ : Mm} {F F2 : FF} (h : ∀ b a s t, F b a s t → F2 b a s t) (k : Z g d N M n cl sl pc lv st μ F) : Z g d N M n cl sl pc lv st μ F2 := fun p e s m args below meth c R H locs ls C Rl S L => W_mono (h below args s) (k p e s m args below meth c R H locs ls C Rl S L)
set_option maxRecDepth 100000 in
set_option maxHeartbeats 4000000 in
theorem ci_Md {g : GG} {d : Nat} {ν3 ν4 : Nm} (hg : zG g) (hd0 : 20 ≤ d) (h3 : Md_copy 314 315 ν2 = some ν3) (h4 : Md_forget ν3 = some ν4) : CtI g d mX12_init 314 333 253015 [.ref 313] μF (zem ν4) := by
  have hF : zvac g 314 (zFI g 314 333 253015 (zem ν4)) := zFI_vac
  refine i_entry (mc := 19) (lv := [(0, .ref 313)]) in_X12_init (Nat.le_of_ble_eq_true rfl) rfl (by omega) ?_
  refine z_aload_n dX12_init_0 0 rfl ?_
  refine z_obj dX12_init_1 (obw obRX12) (by omega) (Nat.le_of_ble_eq_true rfl) ?_
  refine z_aload_n dX12_init_4 0 rfl ?_
  refine z_sipush (M := mX12_init) (v := 1385) dX12_init_5 rfl ?_
  refine i_newaI hF hg (by omega) dX12_init_8 zk_314 ⟨by decide, rfl, by decide⟩ arc_int ⟨by decide, by decide⟩ ?_
  refine z_putRF dX12_init_10 ⟨by decide, zk_313.2⟩ flRX12_7 rfl rfl (fun _ => ⟨rfl, rfl⟩) ?_
  refine z_aload_n dX12_init_13 0 rfl ?_
  refine z_sipush (M := mX12_init) (v := 1385) dX12_init_14 rfl ?_
  refine i_newaI hF hg (by omega) dX12_init_17 zk_315 ⟨by decide, rfl, by decide⟩ arc_int ⟨by decide, by decide⟩ ?_
  refine z_putRF dX12_init_19 ⟨by decide, zk_313.2⟩ flRX12_13 rfl rfl (fun _ => ⟨rfl, rfl⟩) ?_
  refine z_aload_n dX12_init_22 0 rfl ?_
  refine z_sipush (M := mX12_init) (v := 2724) dX12_init_23 rfl ?_
  refine i_newaI hF hg (by omega) dX12_init_26 zk_316 ⟨by decide, rfl, by decide⟩ arc_int ⟨by decide, by decide⟩ ?_
  refine z_putRF dX12_init_28 ⟨by decide, zk_313.2⟩ flRX12_16 rfl rfl (fun _ => ⟨rfl, rfl⟩) ?_
  refine z_aload_n dX12_init_31 0 rfl ?_
  refine z_sipush (M := mX12_init) (v := 300) dX12_init_32 rfl ?_
  refine i_newaI hF hg (by omega) dX12_init_35 zk_317 ⟨by decide, rfl, by decide⟩ arc_int ⟨by decide, by decide⟩ ?_
  refine z_putRF dX12_init_37 ⟨by decide, zk_313.2⟩ flRX12_19 rfl rfl (fun _ => ⟨rfl, rfl⟩) ?_
  refine z_aload_n dX12_init_40 0 rfl ?_
  refine z_iconst (M := mX12_init) (v := -1) dX12_init_41 rfl ?_
  refine z_putI dX12_init_42 ⟨by decide, zk_313.2⟩ flRX12_22 ⟨rfl, rfl⟩ ?_
  refine z_aload_n dX12_init_45 0 rfl ?_
  refine z_iconst (M := mX12_init) (v := -1) dX12_init_46 rfl ?_
  refine z_putI dX12_init_47 ⟨by decide, zk_313.2⟩ flRX12_26 ⟨rfl, rfl⟩ ?_
  refine z_aload_n dX12_init_50 0 rfl ?_
  refine z_sipush (M := mX12_init) (v := 160) dX12_init_51 rfl ?_
  refine i_newaI hF hg (by omega) dX12_init_54 zk_318 ⟨by decide, rfl, by decide⟩ arc_int ⟨by decide, by decide⟩ ?_
  refine z_putRF dX12_init_56 ⟨by decide, zk_313.2⟩ flRX12_29 rfl rfl (fun _ => ⟨rfl, rfl⟩) ?_
  refine z_aload_n dX12_init_59 0 rfl ?_
  refine z_bipush (M := mX12_init) (v := 7) dX12_init_60 rfl ?_
  refine i_newaI hF hg (by omega) dX12_init_62 zk_319 ⟨by decide, rfl, by decide⟩ arc_int ⟨by decide, by decide⟩ ?_
  refine z_putRF dX12_init_64 ⟨by decide, zk_313.2⟩ flRX12_32 rfl rfl (fun _ => ⟨rfl, rfl⟩) ?_
  refine z_aload_n dX12_init_67 0 rfl ?_
  refine z_sipush (M := mX12_init) (v := 330) dX12_init_68 rfl ?_
  refine i_newaJ hF hg (by omega) dX12_init_71 zk_320 ⟨by decide, rfl, by decide⟩ arc_long ⟨by decide, by decide⟩ ?_
  refine z_putRF dX12_init_73 ⟨by decide, zk_313.2⟩ flRX12_35 rfl rfl (fun _ => ⟨rfl, rfl⟩) ?_
  refine z_aload_n dX12_init_76 0 rfl ?_
  refine z_sipush (M := mX12_init) (v := 330) dX12_init_77 rfl ?_
  refine i_newaZ hF hg (by omega) dX12_init_80 zk_321 ⟨by decide, rfl, by decide⟩ arc_boolean ⟨by decide, by decide⟩ ?_
  refine z_putRF dX12_init_82 ⟨by decide, zk_313.2⟩ flRX12_39 rfl rfl (fun _ => ⟨rfl, rfl⟩) ?_
  refine z_aload_n dX12_init_85 0 rfl ?_
  refine z_iconst (M := mX12_init) (v := 1) dX12_init_86 rfl ?_
  refine z_putI dX12_init_87 ⟨by decide, zk_313.2⟩ flRX12_43 ⟨rfl, rfl⟩ ?_
  refine z_aload_n dX12_init_90 0 rfl ?_
  refine z_bipush (M := mX12_init) (v := 20) dX12_init_91 rfl ?_
  refine i_newaI hF hg (by omega) dX12_init_93 zk_322 ⟨by decide, rfl, by decide⟩ arc_int ⟨by decide, by decide⟩ ?_
  refine z_putRF dX12_init_95 ⟨by decide, zk_313.2⟩ flRX12_47 rfl rfl (fun _ => ⟨rfl, rfl⟩) ?_
  refine z_aload_n dX12_init_98 0 rfl ?_
  refine z_bipush (M := mX12_init) (v := 6) dX12_init_99 rfl ?_
  refine i_newaI hF hg (by omega) dX12_init_101 zk_323 ⟨by decide, rfl, by decide⟩ arc_int ⟨by decide, by decide⟩ ?_
  refine z_putRF dX12_init_103 ⟨by decide, zk_313.2⟩ flRX12_50 rfl rfl (fun _ => ⟨rfl, rfl⟩) ?_
  refine z_aload_n dX12_init_106 0 rfl ?_
  refine z_bipush (M := mX12_init) (v := 6) dX12_init_107 rfl ?_
  refine i_newaI hF hg (by omega) dX12_init_109 zk_324 ⟨by decide, rfl, by decide⟩ arc_int ⟨by decide, by decide⟩ ?_
  refine z_putRF dX12_init_111 ⟨by decide, zk_313.2⟩ flRX12_53 rfl rfl (fun _ => ⟨rfl, rfl⟩) ?_
  refine z_aload_n dX12_init_114 0 rfl ?_
  refine z_bipush (M := mX12_init) (v := 24) dX12_init_115 rfl ?_
  refine i_newaI hF hg (by omega) dX12_init_117 zk_325 ⟨by decide, rfl, by decide⟩ arc_int ⟨by decide, by decide⟩ ?_
  refine z_putRF dX12_init_119 ⟨by decide, zk_313.2⟩ flRX12_56 rfl rfl (fun _ => ⟨rfl, rfl⟩) ?_
  refine z_aload_n dX12_init_122 0 rfl ?_
  refine z_bipush (M := mX12_init) (v := 24) dX12_init_123 rfl ?_
  refine i_newaI hF hg (by omega) dX12_init_125 zk_326 ⟨by decide, rfl, by decide⟩ arc_int ⟨by decide, by decide⟩ ?_
  refine z_putRF dX12_init_127 ⟨by decide, zk_313.2⟩ flRX12_59 rfl rfl (fun _ => ⟨rfl, rfl⟩) ?_
  refine z_aload_n dX12_init_130 0 rfl ?_
  refine z_ldc dX12_init_131 csRX12_62 ?_
  refine i_newaZ hF hg (by omega) dX12_init_133 zk_327 ⟨by decide, rfl, by decide⟩ arc_boolean ⟨by decide, by decide⟩ ?_
  refine z_putRF dX12_init_135 ⟨by decide, zk_313.2⟩ flRX12_63 rfl rfl (fun _ => ⟨rfl, rfl⟩) ?_
  refine z_aload_n dX12_init_138 0 rfl ?_
  refine z_bipush (M := mX12_init) (v := 16) dX12_init_139 rfl ?_
  refine i_newaI hF hg (by omega) dX12_init_141 zk_328 ⟨by decide, rfl, by decide⟩ arc_int ⟨by decide, by decide⟩ ?_
  refine z_putRF dX12_init_143 ⟨by decide, zk_313.2⟩ flRX12_66 rfl rfl (fun _ => ⟨rfl, rfl⟩) ?_
  refine z_aload_n dX12_init_146 0 rfl ?_
  refine z_iconst (M := mX12_init) (v := 5) dX12_init_147 rfl ?_
  refine i_newaI hF hg (by omega) dX12_init_148 zk_329 ⟨by decide, rfl, by decide⟩ arc_int ⟨by decide, by decide⟩ ?_
  refine z_putRF dX12_init_150 ⟨by decide, zk_313.2⟩ flRX12_69 rfl rfl (fun _ => ⟨rfl, rfl⟩) ?_
  refine z_aload_n dX12_init_153 0 rfl ?_
  refine z_iconst (M := mX12_init) (v := 5) dX12_init_154 rfl ?_
  refine i_newaI hF hg (by omega) dX12_init_155 zk_330 ⟨by decide, rfl, by decide⟩ arc_int ⟨by decide, by decide⟩ ?_
  refine z_putRF dX12_init_157 ⟨by decide, zk_313.2⟩ flRX12_72 rfl rfl (fun _ => ⟨rfl, rfl⟩) ?_
  refine z_aload_n dX12_init_160 0 rfl ?_
  refine z_sipush (M := mX12_init) (v := 256) dX12_init_161 rfl ?_
  refine i_newaI hF hg (by omega) dX12_init_164 zk_331 ⟨by decide, rfl, by decide⟩ arc_int ⟨by decide, by decide⟩ ?_
  refine z_putRF dX12_init_166 ⟨by decide, zk_313.2⟩ flRX12_75 rfl rfl (fun _ => ⟨rfl, rfl⟩) ?_
  refine z_aload_n dX12_init_169 0 rfl ?_
  refine z_sipush (M := mX12_init) (v := 256) dX12_init_170 rfl ?_
  refine i_newaI hF hg (by omega) dX12_init_173 zk_332 ⟨by decide, rfl, by decide⟩ arc_int ⟨by decide, by decide⟩ ?_
  refine z_putRF dX12_init_175 ⟨by decide, zk_313.2⟩ flRX12_78 rfl rfl (fun _ => ⟨rfl, rfl⟩) ?_
  show Z g d (19, 253015) mX12_init 333 19 253015 178 [(0, .ref 313)] [] FM _
  refine z_at (μ2 := zem ν1) (fun k hk H => fm_at g k hk H) ?_
  refine z_aload_n dX12_init_178 0 rfl ?_
  refine z_getR (M := mX12_init) (r := 314) dX12_init_179 zk_313 flRX12_7 (by decide +kernel) ?_
  refine z_bipush (v := 9) dX12_init_182 rfl ?_
  refine z_sipush (v := 311) dX12_init_184 rfl ?_
  refine z_iast dX12_init_187 zk_314 (inb_vp rfl) ?_
  refine z_aload_n dX12_init_188 0 rfl ?_
  refine z_getR (M := mX12_init) (r := 314) dX12_init_189 zk_313 flRX12_7 (by decide +kernel) ?_
  refine z_iconst (v := 1) dX12_init_192 rfl ?_
  refine z_iconst (v := 2) dX12_init_193 rfl ?_
  refine z_iast dX12_init_194 zk_314 (inb_vp rfl) ?_
  refine z_aload_n dX12_init_195 0 rfl ?_
  refine z_getR (M := mX12_init) (r := 314) dX12_init_196 zk_313 flRX12_7 (by decide +kernel) ?_
  refine z_iconst (v := 3) dX12_init_199 rfl ?_
  refine z_iconst (v := -1) dX12_init_200 rfl ?_
  refine z_iast dX12_init_201 zk_314 (inb_vp rfl) ?_
  show Z g d (19, 253015) mX12_init 333 19 253015 202 [(0, .ref 313)] [] (zem ν2) _
  refine z_aload_n dX12_init_202 0 rfl ?_
  refine z_getR (M := mX12_init) (r := 314) dX12_init_203 zk_313 flRX12_7 (by decide +kernel) ?_
  refine z_aload_n dX12_init_206 0 rfl ?_
  refine z_getR (M := mX12_init) (r := 315) dX12_init_207 zk_313 flRX12_13 (by decide +kernel) ?_
  refine zG_callS (M := mX12_init) (Y := mX12_copy) (d2 := d - 1) (As := [.ref 314, .ref 315]) (st := []) (by decide) dX12_init_210 mlRX12_81 cv_X12_copy (ct_Md_copy (dle (Nat.le_of_ble_eq_true rfl) hd0) zk_314 zk_315 h3) (dps (Nat.le_of_ble_eq_true rfl) hd0) rfl rfl (Nat.le_of_ble_eq_true rfl) ?_
  show Z g d (19, 253015) mX12_init 333 19 253015 213 [(0, .ref 313)] [] (zem ν3) _
  refine z_aload_n dX12_init_213 0 rfl ?_
  refine zG_call (M := mX12_init) (Y := mX12_forget) (d2 := d - 1) (As := []) (st := []) (by decide) dX12_init_214 mlRX12_85 cv_X12_forget zk_313 (ct_Md_forget (dle (Nat.le_of_ble_eq_true rfl) hd0) h4) (dps (Nat.le_of_ble_eq_true rfl) hd0) rfl rfl (Nat.le_of_ble_eq_true rfl) ?_
  show Z g d (19, 253015) mX12_init 333 19 253015 217 [(0, .ref 313)] [] (zem ν4) _
  exact i_ret dX12_init_217 rfl (by decide) (fun _ _ => rfl)
def tmS (i : Nat) : Term := .string RX3 (if i = 0 then zS0 else zS1)
theorem lt2 {P : Nat → Prop} (h0 : P 0) (h1 : P 1) : ∀ i, i < 2 → P i := fun i hi => by
  rcases (show i = 0 ∨ i = 1 by omega) with rfl | rfl
  · exact h0
  · exact h1
theorem st_el : ∀ i, i < 2 → ∀ j, j < zLen.getD i 0 → (Cond.eq (.elem (.field (tmS i) "java/lang/String" "value" "[B") (.int (Int32.ofNat j))) (.int ((zByt.getD i []).getD j 0))) ∈ flatC (Jvm.Cond.and given_1 narrow_1) := by decide +kernel
theorem st_str {b : Nat} {s : State} {A : Nat → Prop} (hgv : (Jvm.Cond.and given_1 narrow_1).before #[Value.ref b] s = true) (hA : ∀ a : Nat, a < s.heap.size → ¬ A a) : ∃ adK adV : Nat → Nat, vk_S 2 zLen zByt adK adV A s s.heap ∧ ∀ i : Nat, i < 2 → (tmS i).eval #[Value.ref b] s none [] s = some (.ref (adK i)) := by
  have hs := flat_of_before _ hgv
  refine vk_Sof (tm := tmS) (by decide) (lt2 (hs _ (by decide +kernel)) (hs _ (by decide +kernel))) (lt2 (hs _ (by decide +kernel)) (hs _ (by decide +kernel))) (lt2 (hs _ (by decide +kernel)) (hs _ (by decide +kernel))) (lt2 (hs _ (by decide +kernel)) (hs _ (by decide +kernel))) (fun i hi j hj => hs _ (st_el i hi j hj)) ?_ hA
  intro i j hi hj hne
  rcases (show i = 0 ∧ j = 1 ∨ i = 1 ∧ j = 0 by omega) with ⟨rfl, rfl⟩ | ⟨rfl, rfl⟩
  · exact Or.inl (hs _ (by decide +kernel))
  · exact Or.inr (hs _ (by decide +kernel))
theorem st_three {b : Nat} {s : State} {A : Nat → Prop} (hgv : (Jvm.Cond.and given_1 narrow_1).before #[Value.ref b] s = true) (hA : ∀ a : Nat, a < s.heap.size → ¬ A a) : ∃ t : Nat, (Term.static RX11 "THREES" "[I").eval #[Value.ref b] s none [] s = some (.ref t) ∧ va_T .int t 4 (fun j => .int (zth j)) A s s.heap := by
  have hs := flat_of_before _ hgv
  refine va_Tof (by decide) (hs _ (by decide +kernel)) (va_eqt (hs _ (by decide +kernel))) (fun j hj => ?_) hA
  rcases (show j = 0 ∨ j = 1 ∨ j = 2 ∨ j = 3 by omega) with rfl | rfl | rfl | rfl
  · exact va_eqt (hs _ (by decide +kernel))
  · exact va_eqt (hs _ (by decide +kernel))
  · exact va_eqt (hs _ (by decide +kernel))
  · exact va_eqt (hs _ (by decide +kernel))
/-- the numbers of a run: addresses and class numbers -/
def g0 (l : Launch) (D : va_G) (cs : Nat → ClassId) (sz b L : Nat) (xs : Nat → Int32) (t3 : Nat) (adK adV : Nat → Nat) (f6 : Nat) : GG := (l, D, fun k => if k < 333 then sz + k else if k = 1000 then t3 else if k = 1001 then b else if k = 1002 then adK 0 else if k = 1003 then adK 1 else if k = 1004 then adV 0 else if k = 1005 then adV 1 else f6, cs, sz, (L, xs))
def FlawK (g : GG) : FF := fun below args s t => zK g 0 s → lw_Z below args s t
theorem FlawK_vac {g : GG} : zvac g 0 (FlawK g) := fun _ _ _ _ h1 h2 => absurd h2 h1
theorem st_arr {s : State} {args : Array Value} {ty : FieldType} (h : (Cond.arrayClass ty).before args s = true) : ∃ cA : ClassId, ArrOfT s cA ty ∧ s.vm.findClass ("[" ++ ty.toString) = some cA := by
  obtain ⟨c, k, comp, h1, h2, h3⟩ := Cond.arrayClass_spec h
  exact ⟨c, fun n z => ⟨fun k h => (by cases h), k, h2, comp, h3⟩, h1⟩
theorem st_arrO {s : State} {args : Array Value} {C : String} (h : (Cond.arrayOver (.object C)).before args s = true) : ∃ cA : ClassId, ArrOfT s cA (.object C) ∧ va_RA s cA (.object C) := by
  obtain ⟨comp, c, k, h1, -, h3, h4, h5⟩ := Cond.arrayOver_spec h
  exact ⟨c, fun n z => ⟨fun k h => (by cases h), k, h3, comp, h4⟩, k, comp, h3, h4, h1, h5⟩
set_option maxRecDepth 100000 in
set_option maxHeartbeats 4000000 in
/-- from the law's entry to its loop, and through it -/
theorem law_start {g : GG} {nm : String} {ν3 ν4 : Nm} (hg : zG g) (h3 : Md_copy 314 315 ν2 = some ν3) (h4 : Md_forget ν3 = some ν4) (h5 : Lw_18 (gN g) (gX g) FU 0 ν4 = some true) : Z g 1000 (600000, 7302250) (mL_law nm) 0 0 0 0 [(0, .ref 1001)] [] μ0 (FlawK g) := by
  have hF : zvac g 0 (FlawK g) := FlawK_vac
  refine i_new hF hg rfl dL_law_0 zcX11 dfX11 zk_0 cwRL_7 ⟨by decide, by decide⟩ ?_
  refine z_dup dL_law_3 rfl ?_
  refine i_call (M := mL_law nm) (n1 := 313) (ms := 9111) (cl2 := 313) (sl2 := 9118) (Y := mX11_init) (d2 := 999) (As := []) (st := [.ref 0]) hF hg rfl (by decide) dL_law_4 (Or.inl mlRL_9) ck_X11_init (ci_Fm (g := g) (d := 999) hg (by decide)) (by decide) rfl rfl (Nat.le_of_ble_eq_true rfl) (by decide) rfl ⟨by decide, by decide⟩ ?_
  refine z_astore_n (M := mL_law nm) (lv2 := [(1, .ref 0), (0, .ref 1001)]) dL_law_7 (Nat.le_of_ble_eq_true rfl) rfl ?_
  refine i_new hF hg rfl dL_law_8 zcX12 dfX12 zk_313 cwRL_10 ⟨by decide, by decide⟩ ?_
  refine z_dup dL_law_11 rfl ?_
  refine i_call (M := mL_law nm) (n1 := 333) (ms := 253015) (cl2 := 333) (sl2 := 262170) (Y := mX12_init) (d2 := 999) (As := []) (st := [.ref 313]) (μ2 := zem ν4) hF hg rfl (by decide) dL_law_12 (Or.inl mlRL_12) ck_X12_init (ci_Md (g := g) (d := 999) hg (by decide) h3 h4) (by decide) rfl rfl (Nat.le_of_ble_eq_true rfl) (by decide) rfl ⟨by decide, by decide⟩ ?_
  refine z_astore_n (M := mL_law nm) (lv2 := [(2, .ref 313), (1, .ref 0), (0, .ref 1001)]) dL_law_15 (Nat.le_of_ble_eq_true rfl) rfl ?_
  refine z_iconst (M := mL_law nm) (v := 0) dL_law_16 rfl ?_
  refine z_istore_n (M := mL_law nm) (lv2 := [(3, .int 0), (2, .ref 313), (1, .ref 0), (0, .ref 1001)]) dL_law_17 (Nat.le_of_ble_eq_true rfl) rfl ?_
  refine z_lv (lv2 := [(0, .ref 1001), (1, .ref 0), (2, .ref 313), (3, .int 0)]) [3, 2, 1, 0] rfl ?_
  exact z_mono (fun b a s t h hk => h hk.1) (t_Lw_18 (Nat.le_refl _) FU 0 ν4 h5)
set_option maxRecDepth 100000 in
set_option maxHeartbeats 4000000 in
/-- THE LAW, from its entry, once its function answers true -/
theorem whole_start0 {p : Program} {e : Env} {s : State} {m : MethodId} {below : List Frame} {meth : Method} {c : Code} (l : Launch) {b L : Nat} {xs : Nat → Int32} {ν3 ν4 : Nm} (h3 : Md_copy 314 315 ν2 = some ν3) (h4 : Md_forget ν3 = some ν4) (h5 : Lw_18 L xs FU 0 ν4 = some true) (C0 : lw_At p s m meth c b L xs) : W p l e room_1 s m #[Value.ref b] below meth c s.heap [] 0 0 (lw_Z below #[Value.ref b] s) (entryFrame m ([Value.ref b] : List Value).toArray 4) := by
  obtain ⟨hx, hb, hr, hml, hown, hts, hX, hbl, hlocks, hgv⟩ := C0
  have hs := flat_of_before _ hgv
  have hts2 : ∀ w ∈ zTb, w.before #[Value.ref b] s = true := fun w hw => hts w (List.mem_filter.mp hw).1
  have hA : ∀ a : Nat, a < s.heap.size → ¬ (s.heap.size ≤ a) := fun a h => Nat.not_le.mpr h
  obtain ⟨t3, ht3, hT3⟩ := st_three (A := fun a => s.heap.size ≤ a) hgv hA
  obtain ⟨adK, adV, hSt, hSe⟩ := st_str (A := fun a => s.heap.size ≤ a) hgv hA
  have hZ3 := va_Zref (A := fun a => s.heap.size ≤ a) (hts _ ls_three) (hts2 _ (zmt1 1 rfl rfl)) ht3 hA
  have hZc := va_Zof (A := fun a => s.heap.size ≤ a) (C := RJ0) (n := "COMPACT_STRINGS") (d := "Z") (v := .int 1) (hts _ ls_compact) (hts2 _ (zmt1 12 rfl rfl)) (va_eqt (hs _ (by decide +kernel))) hA
  have hZf := va_Zqof (A := fun a => s.heap.size ≤ a) (C := RJ3) (n := "SIOOBE_FORMATTER") (d := "Ljava/util/function/BiFunction;") (hts _ ls_fmt) (hts2 _ (zmt1 14 rfl rfl)) (hs _ (by decide +kernel)) hA
  obtain ⟨f6, hf6⟩ : ∃ f6 : Nat, va_Z RJ3 "SIOOBE_FORMATTER" "Ljava/util/function/BiFunction;" .null (fun a => s.heap.size ≤ a) s s.heap ∨ va_Z RJ3 "SIOOBE_FORMATTER" "Ljava/util/function/BiFunction;" (.ref f6) (fun a => s.heap.size ≤ a) s s.heap := by
    rcases hZf with q | ⟨t, q⟩
    · exact ⟨0, Or.inl q⟩
    · exact ⟨t, Or.inr q⟩
  obtain ⟨cI, hI1, hI2⟩ := st_arr (hts2 _ arc_int)
  obtain ⟨cJ, hJ1, hJ2⟩ := st_arr (hts2 _ arc_long)
  obtain ⟨cZ, hZ1, hZ2⟩ := st_arr (hts2 _ arc_boolean)
  obtain ⟨cP, hP1, hP2⟩ := st_arrO (C := RX2) (hts _ ao_pit)
  obtain ⟨cT, hT1, hT2⟩ := st_arrO (C := RX9) (hts _ ao_text)
  obtain ⟨c0, iS0, hKn0⟩ := u_known (C := RX0) (T := TX0) (N := 4) (n := 4) hts2 zcX0.2.2.2.1 (hts2 _ (zmt2 42 rfl rfl))
  obtain ⟨c1, iS1, hKn1⟩ := u_known (C := RX2) (T := TX2) (N := 8) (n := 8) hts2 zcX2.2.2.2.1 (hts2 _ (zmt1 38 rfl rfl))
  obtain ⟨c2, iS2, hKn2⟩ := u_known (C := RX3) (T := TX3) (N := 11) (n := 11) hts2 zcX3.2.2.2.1 (hts2 _ (zmt1 166 rfl rfl))
  obtain ⟨c3, iS3, hKn3⟩ := u_known (C := RX4) (T := TX4) (N := 14) (n := 14) hts2 zcX4.2.2.2.1 (hts2 _ (zmt1 230 rfl rfl))
  obtain ⟨c4, iS4, hKn4⟩ := u_known (C := RX5) (T := TX5) (N := 3) (n := 3) hts2 zcX5.2.2.2.1 (hts2 _ (zmt1 81 rfl rfl))
  obtain ⟨c5, iS5, hKn5⟩ := u_known (C := RX6) (T := TX6) (N := 11) (n := 11) hts2 zcX6.2.2.2.1 (hts2 _ (zmt1 32 rfl rfl))
  obtain ⟨c6, iS6, hKn6⟩ := u_known (C := RX7) (T := TX7) (N := 4) (n := 4) hts2 zcX7.2.2.2.1 (hts2 _ (zmt1 211 rfl rfl))
  obtain ⟨c7, iS7, hKn7⟩ := u_known (C := RX9) (T := TX9) (N := 8) (n := 8) hts2 zcX9.2.2.2.1 (hts2 _ (zmt2 61 rfl rfl))
  obtain ⟨c8, iS8, hKn8⟩ := u_known (C := RX10) (T := TX10) (N := 2) (n := 2) hts2 zcX10.2.2.2.1 (hts2 _ (zmt1 101 rfl rfl))
  obtain ⟨c9, iS9, hKn9⟩ := u_known (C := RX11) (T := TX11) (N := 7) (n := 7) hts2 zcX11.2.2.2.1 (hts2 _ (zmt1 24 rfl rfl))
  obtain ⟨c10, iS10, hKn10⟩ := u_known (C := RX12) (T := TX12) (N := 37) (n := 37) hts2 zcX12.2.2.2.1 (hts2 _ (zmt5 202 rfl rfl))
  obtain ⟨dC, dI, hKc⟩ : ∃ (dC : Nat → ClassId) (dI : Nat → Nat → Nat), ∀ (k : Nat) (q : vw_C), vwCl[k]? = some q → u_Kn s q.1 q.2.1 q.2.2 (dC k) (dI k) := by
    refine ⟨fun k => if k = 0 then c0 else if k = 1 then c1 else if k = 2 then c2 else if k = 3 then c3 else if k = 4 then c4 else if k = 5 then c5 else if k = 6 then c6 else if k = 7 then c7 else if k = 8 then c8 else if k = 9 then c9 else c10, fun k => if k = 0 then iS0 else if k = 1 then iS1 else if k = 2 then iS2 else if k = 3 then iS3 else if k = 4 then iS4 else if k = 5 then iS5 else if k = 6 then iS6 else if k = 7 then iS7 else if k = 8 then iS8 else if k = 9 then iS9 else iS10, ?_⟩
    intro k q hq
    match k, hq with
    | 0, hq => cases hq; exact hKn0
    | 1, hq => cases hq; exact hKn1
    | 2, hq => cases hq; exact hKn2
    | 3, hq => cases hq; exact hKn3
    | 4, hq => cases hq; exact hKn4
    | 5, hq => cases hq; exact hKn5
    | 6, hq => cases hq; exact hKn6
    | 7, hq => cases hq; exact hKn7
    | 8, hq => cases hq; exact hKn8
    | 9, hq => cases hq; exact hKn9
    | 10, hq => cases hq; exact hKn10
    | k + 11, hq => simp at hq
  obtain ⟨cs, hcs⟩ : ∃ cs : Nat → ClassId, cs = fun k => if k = 0 then cI else if k = 1 then cJ else if k = 2 then cZ else if k = 3 then cP else cT := ⟨_, rfl⟩
  have hz : zG (g0 l (dC, dI) cs s.heap.size b L xs t3 adK adV f6) := fun k hk => if_pos hk
  have hK : va_K (dC, dI) vwCl (zty (g0 l (dC, dI) cs s.heap.size b L xs t3 adK adV f6)) s := by
    refine ⟨hKc, fun k q hq => ?_⟩
    subst hcs
    match k, hq with
    | 0, hq => cases hq; exact ⟨hI1, hI2⟩
    | 1, hq => cases hq; exact ⟨hJ1, hJ2⟩
    | 2, hq => cases hq; exact ⟨hZ1, hZ2⟩
    | 3, hq => cases hq; exact ⟨hP1, hP2⟩
    | 4, hq => cases hq; exact ⟨hT1, hT2⟩
    | k + 5, hq => simp at hq
  have hl := lv_entry ([.ref b]) (n := 4) (Nat.le_of_ble_eq_true rfl)
  rw [lg_entry_eq]
  have hk0 : zK (g0 l (dC, dI) cs s.heap.size b L xs t3 adK adV f6) 0 s := ⟨rfl, va_AO.of (hts _ ao_pit), va_AO.of (hts _ ao_text)⟩
  refine W_mono (Q := FlawK (g0 l (dC, dI) cs s.heap.size b L xs t3 adK adV f6) below #[Value.ref b] s) (fun t ht => ht hk0) ?_
  refine law_start (g := g0 l (dC, dI) cs s.heap.size b L xs t3 adK adV f6) (nm := meth.name) hz h3 h4 h5 p e s m #[Value.ref b] below meth c room_1 s.heap [] _ ⟨hx, hb, hr, hml, hown, hts2, hlocks, rfl, ?_, by decide, by decide, by decide, by decide⟩ ⟨hK, fun k q h => by simp [zW] at h, fun i j p q h => by simp [zW] at h, fun k q h => by simp [zW] at h⟩ va_S.rf hl
  refine ⟨hZ3, hT3, hX, hA b hbl, ⟨?_, va_Nw.of rfl (hts _ nf_in), vk_R.of (hts _ sr_0) (hSe 0 (by decide)), vk_R.of (hts _ sr_1) (hSe 1 (by decide))⟩, ⟨?_, ?_⟩, hZc, hf6⟩
  · intro q hq
    exact va_Nw.of rfl (hts _ (nm_in q hq))
  · exact lt2 (hSt.1 0 (by decide)) (hSt.1 1 (by decide))
  · intro i j hi hj e1
    rcases (show i = 0 ∨ i = 1 by omega) with rfl | rfl <;> rcases (show j = 0 ∨ j = 1 by omega) with rfl | rfl
    · rfl
    · exact hSt.2 0 1 (by decide) (by decide) e1
    · exact hSt.2 1 0 (by decide) (by decide) e1
    · rfl

/-! What the skeleton of the claim says of the law. -/
def R_law : String := "FuseMinutesLaw"
def lw_P (b : Addr) (xs : List Int32) (args : Array Value) (s : State) : Prop := args = #[.ref b] ∧ s.IntsAt b xs ∧ xs.length ≤ 384 ∧ (Jvm.Cond.and given_1 narrow_1).before args s = true
def lw_Q (_ : Array Value) (s : State) (o : Outcome) (t : State) : Prop := o = .returned (some (.int 1)) ∧ Framed s o t [] 600000 7302250
def lw_Z (below : List Frame) (a : Array Value) (s : State) : State → Prop := fun t => ∃ o, t.status = .running ∧ Ended t below o ∧ lw_Q a s o t
/-- what holds at the law's entry: the machine, the code, the tables' words (any of lw_tbl by 'hts w (by decide +kernel)'), the script of L ints xs at the cell b, what the Statement gives of the start (any of its parts by flat_of_before) -/
def lw_At (p : Program) (s : State) (m : MethodId) (meth : Method) (c : Code) (b L : Nat) (xs : Nat → Int32) : Prop :=
  p.tables.exec = Jvm.exec ∧ c.code = code ∧ meth.sig.returnType = ret ∧ c.maxLocals = 4 ∧ s.vm.findClass R_law = some m.cls ∧ (∀ w ∈ lw_tbl, w.before #[Value.ref b] s = true) ∧ va_X b L xs s s.heap ∧ b < s.heap.size ∧ meth.locks = false ∧ (Jvm.Cond.and given_1 narrow_1).before #[Value.ref b] s = true
/-! The law's loop. -/
abbrev mL_law (nm : String) : MM := (⟨x.cls, nm, x.desc⟩, code, maxLocals, ret)
/-- the law's end: it answers true, and nothing that was there before has changed -/
def Flaw (g : GG) : FF := fun below args s t => s.heap.size = gB g → lw_Z below args s t
theorem lw_retR {p : Program} {l : Launch} {e : Env} {R : Room} {s : State} {m : MethodId} {args : Array Value} {below : List Frame} {meth : Method} {c : Code} (hx : p.tables.exec = Jvm.exec) (hb : c.code = code) (hr : meth.sig.returnType = ret) (hlocks : meth.locks = false) {pc : Nat} {H : Heap} {ls : Array Slot} (hdg : decode code pc = .ok (.ireturn, 1)) : W p l e R s m args below meth c H [] 600000 7302250 (lw_Z below args s) (F0 m pc ls [.int 1]) := by
  intro T hT X
  obtain ⟨fs, hret, hrun, hended, hW, hframe⟩ := X.leave (v := some (.int 1)) (hlocks := hlocks) (fun h => by rw [hr] at h; cases h)
  have hmeth' : T.vm.method? m = some meth := X.method'
  refine ⟨T.setFrames fs, ?_, .returned (some (.int 1)), hrun, hended, rfl, ⟨_, rfl⟩, hW, hframe⟩
  jvm_step X.here [X.here.top, hx, hb, hdg, hmeth', hr, ret, narrow_b1]
  (try refine ⟨rfl, ?_⟩); (try refine ⟨rfl, ?_⟩)
  first | (intro acts; rw [hret _ acts rfl rfl rfl]) | rw [hret _ _ rfl rfl rfl]
  exact Steps.refl _
section ZLAW
variable {g : GG} {d d2 : Nat} {N : Nat × Nat} {M Y : MM} {cl sl pc idx ci np q : Nat} {lv : List (Nat × Value)} {st As stk : List Value} {μ μ2 : Mm} {F : FF}
theorem z_law1 {nm : String} {n pc : Nat} {lv : List (Nat × Value)} {sl0 : Nat} (hd : decode code pc = .ok (.ireturn, 1)) (hsl : sl0 ≤ 7302250 := by decide) : Z g d N (mL_law nm) n 333 sl0 pc lv [.int 1] μ (Flaw g) := by
  intro p e s m args below meth c R H locs ls C Rl S L
  by_cases h : s.heap.size = gB g
  · refine W_mono (Q := lw_Z below args s) (fun t ht _ => ht) ?_
    refine va_forget (fun x hx => by rw [h]; exact S.2.2 x hx) ?_
    refine W.widen (k := 600000) (n := 7302250) (by decide) hsl ?_
    exact lw_retR C.1 C.2.1 C.2.2.1 C.2.2.2.2.2.2.1 hd
  · exact fun T hT X => ⟨_, Steps.refl _, fun q => absurd q h⟩
theorem zG_call {r : Option Value × Mm} (hcl : cl ≤ N.1 ∧ sl ≤ N.2) (hd : decode (mB M) pc = .ok (.invokevirtual idx, 3)) (hw : Cond.methodLink (mO M) idx Y.1 ∈ zTb) (hY : zcV Y ci np) (hq : zk 333 q (ci, 0)) (hC : Ct g d2 Y (.ref q :: As) μ r) (hdd : d2 + 1 ≤ d) (hn : As.length = np) (hs : As.reverse ++ .ref q :: st = stk) (hW : (st.map fun v => v.category).sum ≤ 8) (k : Z g d N M 333 cl sl (pc + 3) lv (r.1.toList ++ st) r.2 F) : Z g d N M 333 cl sl pc lv stk μ F := by
  intro p e s m args below meth c R H locs ls C Rl S L
  obtain ⟨⟨hin, hml, hini, hy1, hy2, hnp⟩, hci, ⟨rr, hr1, hr2⟩, hins, hsel⟩ := hY
  have hts := C.2.2.2.2.2.1
  have hfr := C.2.2.2.2.2.2.2.2.2
  have he := zW_get g μ hq.1
  rw [zE_o μ hq hci] at he
  have cw : CallW R s args (mO M) Y.1.cls idx Y.1 (mB Y) (mL Y) (mR Y) (zws Y) (zrm d2) 0 0 np := ⟨callB_of np hts (zGood hin) rfl rfl rfl (hts _ hini) (hts _ hw) ⟨hy1, hy2, hnp⟩ ⟨Nat.le_trans hdd hfr.1, by show 8 + (mL Y + 11) + 64 * d2 ≤ R.locals; have := hfr.2.1; omega⟩, hts _ hins, hts _ hsel⟩
  have hrec := va_recv Rl.1 Rl.2.1 hr1 he
  rw [hr2] at hrec
  have hrun := va_runV (e := e) (below := below) (meth := meth) (locs := locs) (cells := cl) (slots := sl) (As := zv g As) (rest := zv g st) (g := F0 m pc ls (zv g stk)) (nL := mL M) ⟨C.1, C.2.1, C.2.2.2.1, C.2.2.2.2.1, hts⟩ hC cw ⟨zPc_blind, hrec, zPc_at (As := .ref q :: As) Rl C.2.2.2.2.2.2.2.2.1 S⟩ rfl (by simp [zv, hn]) L.1 (by rw [← hs]; simp [zv, tr]) (lv_room (by rw [zcat]; exact hW)) hd ⟨Nat.le_trans hcl.1 hfr.2.2.1, Nat.le_trans hcl.2 hfr.2.2.2⟩
  intro T hT X
  obtain ⟨v, st₀, t, T', L', h0, X', hL', e1, e2, ⟨hv, hR, hF⟩, hst⟩ := hrun T hT X
  have hv2 : v = r.1.map (tr g) := by cases hv; rfl
  obtain ⟨t2, a1, b1⟩ := k p e s m args below meth c R t.heap (locs ++ L') ls C ⟨Rl.1, hR.2⟩ (z_back S h0 hF hL') L T' e1 X'
  refine ⟨t2, hst t2 ?_, b1⟩
  have e3 : v.toList ++ zv g st = zv g (r.1.toList ++ st) := by
    rw [hv2]; cases r.1 <;> rfl
  rw [e3]
  exact a1
theorem zG_callS {r : Option Value × Mm} (hcl : cl ≤ N.1 ∧ sl ≤ N.2) (hd : decode (mB M) pc = .ok (.invokestatic idx, 3)) (hw : Cond.methodLink (mO M) idx Y.1 ∈ zTb) (hY : zcS Y np) (hC : Ct g d2 Y As μ r) (hdd : d2 + 1 ≤ d) (hn : As.length = np) (hs : As.reverse ++ st = stk) (hW : (st.map fun v => v.category).sum ≤ 8) (k : Z g d N M 333 cl sl (pc + 3) lv (r.1.toList ++ st) r.2 F) : Z g d N M 333 cl sl pc lv stk μ F := by
  intro p e s m args below meth c R H locs ls C Rl S L
  obtain ⟨⟨hin, hml, hini, hy1, hy2, hnp⟩, hst0⟩ := hY
  have hts := C.2.2.2.2.2.1
  have hfr := C.2.2.2.2.2.2.2.2.2
  have cw : CallB R s args (mO M) idx Y.1 (mB Y) (mL Y) (mR Y) (zws Y) (zrm d2) 0 0 np ∧ (Cond.static Y.1).before args s = true := ⟨callB_of np hts (zGood hin) rfl rfl rfl (hts _ hini) (hts _ hw) ⟨hy1, hy2, hnp⟩ ⟨Nat.le_trans hdd hfr.1, by show 8 + (mL Y + 11) + 64 * d2 ≤ R.locals; have := hfr.2.1; omega⟩, hts _ hst0⟩
  have hrun := va_runS (e := e) (below := below) (meth := meth) (locs := locs) (cells := cl) (slots := sl) (As := zv g As) (rest := zv g st) (g := F0 m pc ls (zv g stk)) (nL := mL M) ⟨C.1, C.2.1, C.2.2.2.1, C.2.2.2.2.1, hts⟩ hC cw ⟨zPc_blind, zPc_at Rl C.2.2.2.2.2.2.2.2.1 S⟩ rfl (by simp [zv, hn]) L.1 (by rw [← hs]; simp [zv, tr]) (lv_room (by rw [zcat]; exact hW)) hd ⟨Nat.le_trans hcl.1 hfr.2.2.1, Nat.le_trans hcl.2 hfr.2.2.2⟩
  intro T hT X
  obtain ⟨v, st₀, t, T', L', h0, X', hL', e1, e2, ⟨hv, hR, hF⟩, hst⟩ := hrun T hT X
  have hv2 : v = r.1.map (tr g) := by cases hv; rfl
  obtain ⟨t2, a1, b1⟩ := k p e s m args below meth c R t.heap (locs ++ L') ls C ⟨Rl.1, hR.2⟩ (z_back S h0 hF hL') L T' e1 X'
  refine ⟨t2, hst t2 ?_, b1⟩
  have e3 : v.toList ++ zv g st = zv g (r.1.toList ++ st) := by
    rw [hv2]; cases r.1 <;> rfl
  rw [e3]
  exact a1
theorem yG_Vi {v : Int32} (hd : decode (mB M) pc = .ok (.invokevirtual idx, 3)) (hw : Cond.methodLink (mO M) idx Y.1 ∈ zTb) (hY : zcV Y ci np) (hq : zk 333 q (ci, 0)) (hC : Ct g d2 Y (.ref q :: As) μ (some (.int v), μ2)) (hdd : d2 + 1 ≤ d) (hn : As.length = np) (hs : As.reverse ++ .ref q :: st = stk) (hW : (st.map fun v => v.category).sum ≤ 8) (k : Z g d (600000, 7302250) M 333 333 262170 (pc + 3) lv (.int v :: st) μ2 F) : Z g d (600000, 7302250) M 333 333 262170 pc lv stk μ F := zG_call (by decide) hd hw hY hq hC hdd hn hs hW k
theorem yG_Vl {v : Int64} (hd : decode (mB M) pc = .ok (.invokevirtual idx, 3)) (hw : Cond.methodLink (mO M) idx Y.1 ∈ zTb) (hY : zcV Y ci np) (hq : zk 333 q (ci, 0)) (hC : Ct g d2 Y (.ref q :: As) μ (some (.long v), μ2)) (hdd : d2 + 1 ≤ d) (hn : As.length = np) (hs : As.reverse ++ .ref q :: st = stk) (hW : (st.map fun v => v.category).sum ≤ 8) (k : Z g d (600000, 7302250) M 333 333 262170 (pc + 3) lv (.long v :: st) μ2 F) : Z g d (600000, 7302250) M 333 333 262170 pc lv stk μ F := zG_call (by decide) hd hw hY hq hC hdd hn hs hW k
theorem yG_sw {n : Nat} {dflt lo hi : Int} {offs : Array Int} {len : Nat} {x : Int32} {off : Int} (v : Int32) (z : Int) (tgt : Nat) (hd : decode (mB M) pc = .ok (.tableswitch dflt lo hi offs, len)) (hx : x = v) (hv : v.toInt = z) (h1 : lo ≤ z) (h2 : z ≤ hi) (ho : offs[(z - lo).toNat]? = some off) (ht : (pc : Int) + off = (tgt : Int)) (k : Z g d N M n cl sl tgt lv st μ F) : Z g d N M n cl sl pc lv (.int x :: st) μ F := by
  subst hx
  exact z_tableIn tgt hd (by rw [hv]; omega) (by rw [hv]; omega) (by rw [hv]; exact ho) ht k
end ZLAW
theorem mlRL_13 : Cond.methodLink "FuseMinutesLaw" 13 yX11_cord ∈ zTb := zmt2 123 rfl rfl
theorem mlRL_17 : Cond.methodLink "FuseMinutesLaw" 17 yX12_cord ∈ zTb := zmt6 88 rfl rfl
theorem mlRL_18 : Cond.methodLink "FuseMinutesLaw" 18 yX11_hands ∈ zTb := zmt2 142 rfl rfl
theorem mlRL_22 : Cond.methodLink "FuseMinutesLaw" 22 yX12_hands ∈ zTb := zmt6 107 rfl rfl
theorem mlRL_23 : Cond.methodLink "FuseMinutesLaw" 23 yX11_feed ∈ zTb := zmt2 146 rfl rfl
theorem mlRL_27 : Cond.methodLink "FuseMinutesLaw" 27 yX12_feed ∈ zTb := zmt6 119 rfl rfl
theorem mlRL_28 : Cond.methodLink "FuseMinutesLaw" 28 yX11_end ∈ zTb := zmt2 154 rfl rfl
theorem mlRL_32 : Cond.methodLink "FuseMinutesLaw" 32 yX12_end ∈ zTb := zmt6 127 rfl rfl
theorem mlRL_33 : Cond.methodLink "FuseMinutesLaw" 33 yX11_text ∈ zTb := zmt2 158 rfl rfl
theorem mlRL_37 : Cond.methodLink "FuseMinutesLaw" 37 yX12_text ∈ zTb := zmt6 131 rfl rfl
theorem mlRL_38 : Cond.methodLink "FuseMinutesLaw" 38 yX11_fault ∈ zTb := zmt3 142 rfl rfl
theorem mlRL_41 : Cond.methodLink "FuseMinutesLaw" 41 yX12_fault ∈ zTb := zmt7 23 rfl rfl
theorem mlRL_42 : Cond.methodLink "FuseMinutesLaw" 42 yX11_by ∈ zTb := zmt3 146 rfl rfl
theorem mlRL_45 : Cond.methodLink "FuseMinutesLaw" 45 yX12_by ∈ zTb := zmt7 27 rfl rfl
theorem mlRL_46 : Cond.methodLink "FuseMinutesLaw" 46 yX11_light ∈ zTb := zmt3 154 rfl rfl
theorem mlRL_50 : Cond.methodLink "FuseMinutesLaw" 50 yX12_light ∈ zTb := zmt7 35 rfl rfl
theorem mlRL_51 : Cond.methodLink "FuseMinutesLaw" 51 yX11_snuff ∈ zTb := zmt4 11 rfl rfl
theorem mlRL_55 : Cond.methodLink "FuseMinutesLaw" 55 yX12_snuff ∈ zTb := zmt7 129 rfl rfl
theorem mlRL_56 : Cond.methodLink "FuseMinutesLaw" 56 yX11_renew ∈ zTb := zmt4 19 rfl rfl
theorem mlRL_59 : Cond.methodLink "FuseMinutesLaw" 59 yX12_renew ∈ zTb := zmt7 141 rfl rfl
theorem mlRL_60 : Cond.methodLink "FuseMinutesLaw" 60 yX11_burn ∈ zTb := zmt4 28 rfl rfl
theorem mlRL_63 : Cond.methodLink "FuseMinutesLaw" 63 yX12_burn ∈ zTb := zmt7 149 rfl rfl
theorem mlRL_64 : Cond.methodLink "FuseMinutesLaw" 64 yX11_minute ∈ zTb := zmt4 61 rfl rfl
theorem mlRL_67 : Cond.methodLink "FuseMinutesLaw" 67 yX12_minute ∈ zTb := zmt7 175 rfl rfl
theorem mlRL_68 : Cond.methodLink "FuseMinutesLaw" 68 yX11_played ∈ zTb := zmt4 69 rfl rfl
theorem mlRL_71 : Cond.methodLink "FuseMinutesLaw" 71 yX12_played ∈ zTb := zmt7 187 rfl rfl
theorem mlRL_72 : Cond.methodLink "FuseMinutesLaw" 72 yX11_shifts ∈ zTb := zmt4 88 rfl rfl
theorem mlRL_75 : Cond.methodLink "FuseMinutesLaw" 75 yX12_shifts ∈ zTb := zmt7 201 rfl rfl
theorem mlRL_76 : Cond.methodLink "FuseMinutesLaw" 76 yX11_undo ∈ zTb := zmt4 100 rfl rfl
theorem mlRL_79 : Cond.methodLink "FuseMinutesLaw" 79 yX12_undo ∈ zTb := zmt7 31 rfl rfl
theorem mlRL_80 : Cond.methodLink "FuseMinutesLaw" 80 yX11_of ∈ zTb := zmt4 108 rfl rfl
theorem mlRL_83 : Cond.methodLink "FuseMinutesLaw" 83 yX12_of ∈ zTb := zmt7 209 rfl rfl
theorem mlRL_84 : Cond.methodLink "FuseMinutesLaw" 84 yX11_law ∈ zTb := zmt4 112 rfl rfl
theorem mlRL_88 : Cond.methodLink "FuseMinutesLaw" 88 yX12_law ∈ zTb := zmt7 213 rfl rfl
theorem mlRL_89 : Cond.methodLink "FuseMinutesLaw" 89 yX11_is ∈ zTb := zmt4 116 rfl rfl
theorem mlRL_92 : Cond.methodLink "FuseMinutesLaw" 92 yX12_is ∈ zTb := zmt7 217 rfl rfl
theorem mlRL_93 : Cond.methodLink "FuseMinutesLaw" 93 yX11_book ∈ zTb := zmt4 121 rfl rfl
theorem mlRL_96 : Cond.methodLink "FuseMinutesLaw" 96 yX12_book ∈ zTb := zmt7 221 rfl rfl
theorem mlRL_97 : Cond.methodLink "FuseMinutesLaw" 97 yX11_foretold ∈ zTb := zmt4 128 rfl rfl
theorem mlRL_100 : Cond.methodLink "FuseMinutesLaw" 100 yX12_foretold ∈ zTb := zmt8 5 rfl rfl
theorem mlRL_101 : Cond.methodLink "FuseMinutesLaw" 101 yX11_out ∈ zTb := zmt4 133 rfl rfl
theorem mlRL_104 : Cond.methodLink "FuseMinutesLaw" 104 yX12_out ∈ zTb := zmt8 9 rfl rfl
theorem mlRL_105 : Cond.methodLink "FuseMinutesLaw" 105 yX11_spans ∈ zTb := zmt4 138 rfl rfl
theorem mlRL_108 : Cond.methodLink "FuseMinutesLaw" 108 yX12_spans ∈ zTb := zmt8 13 rfl rfl
theorem mlRL_109 : Cond.methodLink "FuseMinutesLaw" 109 yX11_can ∈ zTb := zmt4 198 rfl rfl
theorem mlRL_113 : Cond.methodLink "FuseMinutesLaw" 113 yX12_can ∈ zTb := zmt8 48 rfl rfl
theorem mlRL_114 : Cond.methodLink "FuseMinutesLaw" 114 yX11_fewest ∈ zTb := zmt4 209 rfl rfl
theorem mlRL_117 : Cond.methodLink "FuseMinutesLaw" 117 yX12_fewest ∈ zTb := zmt8 80 rfl rfl
theorem mlRL_118 : Cond.methodLink "FuseMinutesLaw" 118 yX11_cheapest ∈ zTb := zmt4 213 rfl rfl
theorem mlRL_121 : Cond.methodLink "FuseMinutesLaw" 121 yX12_cheapest ∈ zTb := zmt8 84 rfl rfl
theorem mlRL_122 : Cond.methodLink "FuseMinutesLaw" 122 yX11_row ∈ zTb := zmt4 221 rfl rfl
theorem mlRL_126 : Cond.methodLink "FuseMinutesLaw" 126 yX12_row ∈ zTb := zmt8 59 rfl rfl
theorem mlRL_127 : Cond.methodLink "FuseMinutesLaw" 127 yX11_between ∈ zTb := zmt4 236 rfl rfl
theorem mlRL_131 : Cond.methodLink "FuseMinutesLaw" 131 yX12_between ∈ zTb := zmt8 76 rfl rfl
theorem mlRL_132 : Cond.methodLink "FuseMinutesLaw" 132 yX11_nearest ∈ zTb := zmt5 0 rfl rfl
theorem mlRL_135 : Cond.methodLink "FuseMinutesLaw" 135 yX12_nearest ∈ zTb := zmt8 55 rfl rfl
theorem mlRL_136 : Cond.methodLink "FuseMinutesLaw" 136 yX11_want ∈ zTb := zmt5 13 rfl rfl
theorem mlRL_139 : Cond.methodLink "FuseMinutesLaw" 139 yX12_want ∈ zTb := zmt8 96 rfl rfl
theorem mlRL_140 : Cond.methodLink "FuseMinutesLaw" 140 yX11_bundle ∈ zTb := zmt5 21 rfl rfl
theorem mlRL_144 : Cond.methodLink "FuseMinutesLaw" 144 yX12_bundle ∈ zTb := zmt8 100 rfl rfl
theorem mlRL_145 : Cond.methodLink "FuseMinutesLaw" 145 yX11_part ∈ zTb := zmt5 64 rfl rfl
theorem mlRL_148 : Cond.methodLink "FuseMinutesLaw" 148 yX12_part ∈ zTb := zmt8 116 rfl rfl
theorem mlRL_149 : Cond.methodLink "FuseMinutesLaw" 149 yX11_crews ∈ zTb := zmt5 72 rfl rfl
theorem mlRL_152 : Cond.methodLink "FuseMinutesLaw" 152 yX12_crews ∈ zTb := zmt8 120 rfl rfl
theorem mlRL_153 : Cond.methodLink "FuseMinutesLaw" 153 yX11_take ∈ zTb := zmt5 84 rfl rfl
theorem mlRL_156 : Cond.methodLink "FuseMinutesLaw" 156 yX12_take ∈ zTb := zmt8 145 rfl rfl
theorem mlRL_157 : Cond.methodLink "FuseMinutesLaw" 157 yX11_wet ∈ zTb := zmt5 91 rfl rfl
theorem mlRL_160 : Cond.methodLink "FuseMinutesLaw" 160 yX12_wet ∈ zTb := zmt6 111 rfl rfl
theorem mlRL_161 : Cond.methodLink "FuseMinutesLaw" 161 yX11_tried ∈ zTb := zmt5 95 rfl rfl
theorem mlRL_164 : Cond.methodLink "FuseMinutesLaw" 164 yX12_tried ∈ zTb := zmt8 149 rfl rfl
theorem mlRL_165 : Cond.methodLink "FuseMinutesLaw" 165 yX11_suspects ∈ zTb := zmt5 99 rfl rfl
theorem mlRL_168 : Cond.methodLink "FuseMinutesLaw" 168 yX12_suspects ∈ zTb := zmt8 153 rfl rfl
theorem mlRL_169 : Cond.methodLink "FuseMinutesLaw" 169 yX11_test ∈ zTb := zmt5 119 rfl rfl
theorem mlRL_172 : Cond.methodLink "FuseMinutesLaw" 172 yX12_test ∈ zTb := zmt8 161 rfl rfl
theorem mlRL_173 : Cond.methodLink "FuseMinutesLaw" 173 yX11_right ∈ zTb := zmt5 131 rfl rfl
theorem mlRL_177 : Cond.methodLink "FuseMinutesLaw" 177 yX12_right ∈ zTb := zmt8 166 rfl rfl
theorem mlRL_178 : Cond.methodLink "FuseMinutesLaw" 178 yX11_tries ∈ zTb := zmt5 143 rfl rfl
theorem mlRL_182 : Cond.methodLink "FuseMinutesLaw" 182 yX12_tries ∈ zTb := zmt8 181 rfl rfl
theorem mlRL_183 : Cond.methodLink "FuseMinutesLaw" 183 yX11_said ∈ zTb := zmt5 147 rfl rfl
theorem mlRL_186 : Cond.methodLink "FuseMinutesLaw" 186 yX12_said ∈ zTb := zmt8 185 rfl rfl
theorem mlRL_187 : Cond.methodLink "FuseMinutesLaw" 187 yX11_whose ∈ zTb := zmt5 151 rfl rfl
theorem mlRL_190 : Cond.methodLink "FuseMinutesLaw" 190 yX12_whose ∈ zTb := zmt8 189 rfl rfl
theorem mlRL_191 : Cond.methodLink "FuseMinutesLaw" 191 yX11_longest ∈ zTb := zmt5 159 rfl rfl
theorem mlRL_194 : Cond.methodLink "FuseMinutesLaw" 194 yX12_longest ∈ zTb := zmt7 233 rfl rfl
theorem mlRL_195 : Cond.methodLink "FuseMinutesLaw" 195 yX11_burning ∈ zTb := zmt5 163 rfl rfl
theorem mlRL_198 : Cond.methodLink "FuseMinutesLaw" 198 yX12_burning ∈ zTb := zmt7 237 rfl rfl
theorem mlRL_199 : Cond.methodLink "FuseMinutesLaw" 199 yX11_dead ∈ zTb := zmt5 167 rfl rfl
theorem mlRL_202 : Cond.methodLink "FuseMinutesLaw" 202 yX12_dead ∈ zTb := zmt8 1 rfl rfl
theorem mlRL_203 : Cond.methodLink "FuseMinutesLaw" 203 yX11_ledger ∈ zTb := zmt5 171 rfl rfl
theorem mlRL_206 : Cond.methodLink "FuseMinutesLaw" 206 yX12_ledger ∈ zTb := zmt7 229 rfl rfl
theorem mlRL_207 : Cond.methodLink "FuseMinutesLaw" 207 yX11_image ∈ zTb := zmt5 175 rfl rfl
theorem mlRL_210 : Cond.methodLink "FuseMinutesLaw" 210 yX12_image ∈ zTb := zmt8 193 rfl rfl
theorem mlRL_211 : Cond.methodLink "FuseMinutesLaw" 211 yX11_back ∈ zTb := zmt5 193 rfl rfl
theorem mlRL_214 : Cond.methodLink "FuseMinutesLaw" 214 yX12_back ∈ zTb := zmt8 197 rfl rfl
theorem mlRL_215 : Cond.methodLink "FuseMinutesLaw" 215 yX11_about ∈ zTb := zmt5 197 rfl rfl
theorem mlRL_218 : Cond.methodLink "FuseMinutesLaw" 218 yX12_about ∈ zTb := zmt8 201 rfl rfl
def Lw_1706 (N : Nat) (xs : Nat → Int32) (k18 : Int32 → Nm → Option Bool) (x3 : Int32) (ν : Nm) : Option Bool :=
  k18 (x3 + (6 : Int32)) ν
set_option maxRecDepth 100000 in
set_option maxHeartbeats 4000000 in
theorem t_Lw_1706 {g : GG} {d : Nat} {nm : String} (hd0 : 1000 ≤ d) {k18 : Int32 → Nm → Option Bool} (hk18 : ∀ (x3 : Int32) (ν : Nm), k18 x3 ν = some true → Z g d (600000, 7302250) (mL_law nm) 333 333 262170 18 [(0, .ref 1001), (1, .ref 0), (2, .ref 313), (3, .int x3)] [] (zem ν) (Flaw g)) : ∀ (x3 : Int32) (ν : Nm), Lw_1706 (gN g) (gX g) k18 x3 ν = some true → Z g d (600000, 7302250) (mL_law nm) 333 333 262170 1706 [(0, .ref 1001), (1, .ref 0), (2, .ref 313), (3, .int x3)] [] (zem ν) (Flaw g) := by
  intro x3 ν h
  unfold Lw_1706 at h
  refine z_iinc (M := (mL_law nm)) (v := (x3 + (6 : Int32))) (lv2 := [(3, .int (x3 + (6 : Int32))), (0, .ref 1001), (1, .ref 0), (2, .ref 313)]) dL_law_1706 3 rfl rfl (Nat.le_of_ble_eq_true rfl) rfl ?_
  refine z_goto 18 dL_law_1709 rfl ?_
  refine z_lv (lv2 := [(0, .ref 1001), (1, .ref 0), (2, .ref 313), (3, .int (x3 + (6 : Int32)))]) [1, 2, 3, 0] rfl ?_
  exact hk18 (x3 + (6 : Int32)) ν h
def Lw_240 (N : Nat) (xs : Nat → Int32) (k18 : Int32 → Nm → Option Bool) (x3 : Int32) (ν : Nm) : Option Bool :=
  if inb (x3 + (1 : Int32)) N then
  if inb (x3 + (2 : Int32)) N then
  (Fm_cord (xs (x3 + (1 : Int32)).toNatClampNeg) (xs (x3 + (2 : Int32)).toNatClampNeg) ν).bind fun v3 =>
  if inb (x3 + (1 : Int32)) N then
  if inb (x3 + (2 : Int32)) N then
  (Md_cord (xs (x3 + (1 : Int32)).toNatClampNeg) (xs (x3 + (2 : Int32)).toNatClampNeg) v3.2).bind fun v6 =>
  (if v3.1 = v6.1 then
    Lw_1706 N xs k18 x3 v6.2
  else
    some false)
  else none
  else none
  else none
  else none
set_option maxRecDepth 100000 in
set_option maxHeartbeats 4000000 in
theorem t_Lw_240 {g : GG} {d : Nat} {nm : String} (hd0 : 1000 ≤ d) {k18 : Int32 → Nm → Option Bool} (hk18 : ∀ (x3 : Int32) (ν : Nm), k18 x3 ν = some true → Z g d (600000, 7302250) (mL_law nm) 333 333 262170 18 [(0, .ref 1001), (1, .ref 0), (2, .ref 313), (3, .int x3)] [] (zem ν) (Flaw g)) : ∀ (x3 : Int32) (ν : Nm), Lw_240 (gN g) (gX g) k18 x3 ν = some true → Z g d (600000, 7302250) (mL_law nm) 333 333 262170 240 [(0, .ref 1001), (1, .ref 0), (2, .ref 313), (3, .int x3)] [] (zem ν) (Flaw g) := by
  intro x3 ν h
  unfold Lw_240 at h
  refine z_aload_n dL_law_240 1 rfl ?_
  refine z_aload_n dL_law_241 0 rfl ?_
  refine z_iload_n dL_law_242 3 rfl ?_
  refine z_iconst (M := (mL_law nm)) (v := 1) dL_law_243 rfl ?_
  refine z_iadd dL_law_244 ?_
  obtain ⟨hi1, h⟩ := oif h
  refine z_sald dL_law_245 (inb_vp hi1) ?_
  refine z_aload_n dL_law_246 0 rfl ?_
  refine z_iload_n dL_law_247 3 rfl ?_
  refine z_iconst (M := (mL_law nm)) (v := 2) dL_law_248 rfl ?_
  refine z_iadd dL_law_249 ?_
  obtain ⟨hi2, h⟩ := oif h
  refine z_sald dL_law_250 (inb_vp hi2) ?_
  obtain ⟨v3, he3, h⟩ := obind h
  refine yG_Vi (M := (mL_law nm)) (Y := mX11_cord) (d2 := d - 1) (As := [.int (gX g (x3 + (1 : Int32)).toNatClampNeg), .int (gX g (x3 + (2 : Int32)).toNatClampNeg)]) (st := []) dL_law_251 mlRL_13 cv_X11_cord zk_0 (ct_Fm_cord (dle (Nat.le_of_ble_eq_true rfl) hd0) he3) (dps (Nat.le_of_ble_eq_true rfl) hd0) rfl rfl (Nat.le_of_ble_eq_true rfl) ?_
  refine z_aload_n dL_law_254 2 rfl ?_
  refine z_aload_n dL_law_255 0 rfl ?_
  refine z_iload_n dL_law_256 3 rfl ?_
  refine z_iconst (M := (mL_law nm)) (v := 1) dL_law_257 rfl ?_
  refine z_iadd dL_law_258 ?_
  obtain ⟨hi4, h⟩ := oif h
  refine z_sald dL_law_259 (inb_vp hi4) ?_
  refine z_aload_n dL_law_260 0 rfl ?_
  refine z_iload_n dL_law_261 3 rfl ?_
  refine z_iconst (M := (mL_law nm)) (v := 2) dL_law_262 rfl ?_
  refine z_iadd dL_law_263 ?_
  obtain ⟨hi5, h⟩ := oif h
  refine z_sald dL_law_264 (inb_vp hi5) ?_
  obtain ⟨v6, he6, h⟩ := obind h
  refine yG_Vi (M := (mL_law nm)) (Y := mX12_cord) (d2 := d - 1) (As := [.int (gX g (x3 + (1 : Int32)).toNatClampNeg), .int (gX g (x3 + (2 : Int32)).toNatClampNeg)]) (st := [.int v3.1]) dL_law_265 mlRL_17 cv_X12_cord zk_313 (ct_Md_cord (dle (Nat.le_of_ble_eq_true rfl) hd0) he6) (dps (Nat.le_of_ble_eq_true rfl) hd0) rfl rfl (Nat.le_of_ble_eq_true rfl) ?_
  refine z_icmp_eq 1706 dL_law_268 rfl (fun hc7 => ?_) (fun hc7 => ?_)
  · replace h := oT hc7 h
    exact t_Lw_1706 hd0 hk18 x3 v6.2 h
  · replace h := oF hc7 h
    refine z_iconst (M := (mL_law nm)) (v := 0) dL_law_271 rfl ?_
    cases h
def Lw_273 (N : Nat) (xs : Nat → Int32) (k18 : Int32 → Nm → Option Bool) (x3 : Int32) (ν : Nm) : Option Bool :=
  if inb (x3 + (1 : Int32)) N then
  (Fm_hands (xs (x3 + (1 : Int32)).toNatClampNeg) ν).bind fun v2 =>
  if inb (x3 + (1 : Int32)) N then
  (Md_hands (xs (x3 + (1 : Int32)).toNatClampNeg) v2.2).bind fun v4 =>
  (if (b2i v2.1) = (b2i v4.1) then
    Lw_1706 N xs k18 x3 v4.2
  else
    some false)
  else none
  else none
set_option maxRecDepth 100000 in
set_option maxHeartbeats 4000000 in
theorem t_Lw_273 {g : GG} {d : Nat} {nm : String} (hd0 : 1000 ≤ d) {k18 : Int32 → Nm → Option Bool} (hk18 : ∀ (x3 : Int32) (ν : Nm), k18 x3 ν = some true → Z g d (600000, 7302250) (mL_law nm) 333 333 262170 18 [(0, .ref 1001), (1, .ref 0), (2, .ref 313), (3, .int x3)] [] (zem ν) (Flaw g)) : ∀ (x3 : Int32) (ν : Nm), Lw_273 (gN g) (gX g) k18 x3 ν = some true → Z g d (600000, 7302250) (mL_law nm) 333 333 262170 273 [(0, .ref 1001), (1, .ref 0), (2, .ref 313), (3, .int x3)] [] (zem ν) (Flaw g) := by
  intro x3 ν h
  unfold Lw_273 at h
  refine z_aload_n dL_law_273 1 rfl ?_
  refine z_aload_n dL_law_274 0 rfl ?_
  refine z_iload_n dL_law_275 3 rfl ?_
  refine z_iconst (M := (mL_law nm)) (v := 1) dL_law_276 rfl ?_
  refine z_iadd dL_law_277 ?_
  obtain ⟨hi1, h⟩ := oif h
  refine z_sald dL_law_278 (inb_vp hi1) ?_
  obtain ⟨v2, he2, h⟩ := obind h
  refine yG_Vi (M := (mL_law nm)) (Y := mX11_hands) (d2 := d - 1) (As := [.int (gX g (x3 + (1 : Int32)).toNatClampNeg)]) (st := []) dL_law_279 mlRL_18 cv_X11_hands zk_0 (ct_Fm_hands (dle (Nat.le_of_ble_eq_true rfl) hd0) he2) (dps (Nat.le_of_ble_eq_true rfl) hd0) rfl rfl (Nat.le_of_ble_eq_true rfl) ?_
  refine z_aload_n dL_law_282 2 rfl ?_
  refine z_aload_n dL_law_283 0 rfl ?_
  refine z_iload_n dL_law_284 3 rfl ?_
  refine z_iconst (M := (mL_law nm)) (v := 1) dL_law_285 rfl ?_
  refine z_iadd dL_law_286 ?_
  obtain ⟨hi3, h⟩ := oif h
  refine z_sald dL_law_287 (inb_vp hi3) ?_
  obtain ⟨v4, he4, h⟩ := obind h
  refine yG_Vi (M := (mL_law nm)) (Y := mX12_hands) (d2 := d - 1) (As := [.int (gX g (x3 + (1 : Int32)).toNatClampNeg)]) (st := [.int (b2i v2.1)]) dL_law_288 mlRL_22 cv_X12_hands zk_313 (ct_Md_hands (dle (Nat.le_of_ble_eq_true rfl) hd0) he4) (dps (Nat.le_of_ble_eq_true rfl) hd0) rfl rfl (Nat.le_of_ble_eq_true rfl) ?_
  refine z_icmp_eq 1706 dL_law_291 rfl (fun hc5 => ?_) (fun hc5 => ?_)
  · replace h := oT hc5 h
    exact t_Lw_1706 hd0 hk18 x3 v4.2 h
  · replace h := oF hc5 h
    refine z_iconst (M := (mL_law nm)) (v := 0) dL_law_294 rfl ?_
    cases h
def Lw_296 (N : Nat) (xs : Nat → Int32) (k18 : Int32 → Nm → Option Bool) (x3 : Int32) (ν : Nm) : Option Bool :=
  if inb (x3 + (1 : Int32)) N then
  if inb (x3 + (2 : Int32)) N then
  if inb (x3 + (3 : Int32)) N then
  if inb (x3 + (4 : Int32)) N then
  if inb (x3 + (5 : Int32)) N then
  (Fm_feed (xs (x3 + (1 : Int32)).toNatClampNeg) (xs (x3 + (2 : Int32)).toNatClampNeg) (xs (x3 + (3 : Int32)).toNatClampNeg) (xs (x3 + (4 : Int32)).toNatClampNeg) (xs (x3 + (5 : Int32)).toNatClampNeg) ν).bind fun v6 =>
  if inb (x3 + (1 : Int32)) N then
  if inb (x3 + (2 : Int32)) N then
  if inb (x3 + (3 : Int32)) N then
  if inb (x3 + (4 : Int32)) N then
  if inb (x3 + (5 : Int32)) N then
  (Md_feed (xs (x3 + (1 : Int32)).toNatClampNeg) (xs (x3 + (2 : Int32)).toNatClampNeg) (xs (x3 + (3 : Int32)).toNatClampNeg) (xs (x3 + (4 : Int32)).toNatClampNeg) (xs (x3 + (5 : Int32)).toNatClampNeg) v6.2).bind fun v12 =>
  (if v6.1 = v12.1 then
    Lw_1706 N xs k18 x3 v12.2
  else
    some false)
  else none
  else none
  else none
  else none
  else none
  else none
  else none
  else none
  else none
  else none
set_option maxRecDepth 100000 in
set_option maxHeartbeats 4000000 in
theorem t_Lw_296 {g : GG} {d : Nat} {nm : String} (hd0 : 1000 ≤ d) {k18 : Int32 → Nm → Option Bool} (hk18 : ∀ (x3 : Int32) (ν : Nm), k18 x3 ν = some true → Z g d (600000, 7302250) (mL_law nm) 333 333 262170 18 [(0, .ref 1001), (1, .ref 0), (2, .ref 313), (3, .int x3)] [] (zem ν) (Flaw g)) : ∀ (x3 : Int32) (ν : Nm), Lw_296 (gN g) (gX g) k18 x3 ν = some true → Z g d (600000, 7302250) (mL_law nm) 333 333 262170 296 [(0, .ref 1001), (1, .ref 0), (2, .ref 313), (3, .int x3)] [] (zem ν) (Flaw g) := by
  intro x3 ν h
  unfold Lw_296 at h
  refine z_aload_n dL_law_296 1 rfl ?_
  refine z_aload_n dL_law_297 0 rfl ?_
  refine z_iload_n dL_law_298 3 rfl ?_
  refine z_iconst (M := (mL_law nm)) (v := 1) dL_law_299 rfl ?_
  refine z_iadd dL_law_300 ?_
  obtain ⟨hi1, h⟩ := oif h
  refine z_sald dL_law_301 (inb_vp hi1) ?_
  refine z_aload_n dL_law_302 0 rfl ?_
  refine z_iload_n dL_law_303 3 rfl ?_
  refine z_iconst (M := (mL_law nm)) (v := 2) dL_law_304 rfl ?_
  refine z_iadd dL_law_305 ?_
  obtain ⟨hi2, h⟩ := oif h
  refine z_sald dL_law_306 (inb_vp hi2) ?_
  refine z_aload_n dL_law_307 0 rfl ?_
  refine z_iload_n dL_law_308 3 rfl ?_
  refine z_iconst (M := (mL_law nm)) (v := 3) dL_law_309 rfl ?_
  refine z_iadd dL_law_310 ?_
  obtain ⟨hi3, h⟩ := oif h
  refine z_sald dL_law_311 (inb_vp hi3) ?_
  refine z_aload_n dL_law_312 0 rfl ?_
  refine z_iload_n dL_law_313 3 rfl ?_
  refine z_iconst (M := (mL_law nm)) (v := 4) dL_law_314 rfl ?_
  refine z_iadd dL_law_315 ?_
  obtain ⟨hi4, h⟩ := oif h
  refine z_sald dL_law_316 (inb_vp hi4) ?_
  refine z_aload_n dL_law_317 0 rfl ?_
  refine z_iload_n dL_law_318 3 rfl ?_
  refine z_iconst (M := (mL_law nm)) (v := 5) dL_law_319 rfl ?_
  refine z_iadd dL_law_320 ?_
  obtain ⟨hi5, h⟩ := oif h
  refine z_sald dL_law_321 (inb_vp hi5) ?_
  obtain ⟨v6, he6, h⟩ := obind h
  refine yG_Vi (M := (mL_law nm)) (Y := mX11_feed) (d2 := d - 1) (As := [.int (gX g (x3 + (1 : Int32)).toNatClampNeg), .int (gX g (x3 + (2 : Int32)).toNatClampNeg), .int (gX g (x3 + (3 : Int32)).toNatClampNeg), .int (gX g (x3 + (4 : Int32)).toNatClampNeg), .int (gX g (x3 + (5 : Int32)).toNatClampNeg)]) (st := []) dL_law_322 mlRL_23 cv_X11_feed zk_0 (ct_Fm_feed (dle (Nat.le_of_ble_eq_true rfl) hd0) he6) (dps (Nat.le_of_ble_eq_true rfl) hd0) rfl rfl (Nat.le_of_ble_eq_true rfl) ?_
  refine z_aload_n dL_law_325 2 rfl ?_
  refine z_aload_n dL_law_326 0 rfl ?_
  refine z_iload_n dL_law_327 3 rfl ?_
  refine z_iconst (M := (mL_law nm)) (v := 1) dL_law_328 rfl ?_
  refine z_iadd dL_law_329 ?_
  obtain ⟨hi7, h⟩ := oif h
  refine z_sald dL_law_330 (inb_vp hi7) ?_
  refine z_aload_n dL_law_331 0 rfl ?_
  refine z_iload_n dL_law_332 3 rfl ?_
  refine z_iconst (M := (mL_law nm)) (v := 2) dL_law_333 rfl ?_
  refine z_iadd dL_law_334 ?_
  obtain ⟨hi8, h⟩ := oif h
  refine z_sald dL_law_335 (inb_vp hi8) ?_
  refine z_aload_n dL_law_336 0 rfl ?_
  refine z_iload_n dL_law_337 3 rfl ?_
  refine z_iconst (M := (mL_law nm)) (v := 3) dL_law_338 rfl ?_
  refine z_iadd dL_law_339 ?_
  obtain ⟨hi9, h⟩ := oif h
  refine z_sald dL_law_340 (inb_vp hi9) ?_
  refine z_aload_n dL_law_341 0 rfl ?_
  refine z_iload_n dL_law_342 3 rfl ?_
  refine z_iconst (M := (mL_law nm)) (v := 4) dL_law_343 rfl ?_
  refine z_iadd dL_law_344 ?_
  obtain ⟨hi10, h⟩ := oif h
  refine z_sald dL_law_345 (inb_vp hi10) ?_
  refine z_aload_n dL_law_346 0 rfl ?_
  refine z_iload_n dL_law_347 3 rfl ?_
  refine z_iconst (M := (mL_law nm)) (v := 5) dL_law_348 rfl ?_
  refine z_iadd dL_law_349 ?_
  obtain ⟨hi11, h⟩ := oif h
  refine z_sald dL_law_350 (inb_vp hi11) ?_
  obtain ⟨v12, he12, h⟩ := obind h
  refine yG_Vi (M := (mL_law nm)) (Y := mX12_feed) (d2 := d - 1) (As := [.int (gX g (x3 + (1 : Int32)).toNatClampNeg), .int (gX g (x3 + (2 : Int32)).toNatClampNeg), .int (gX g (x3 + (3 : Int32)).toNatClampNeg), .int (gX g (x3 + (4 : Int32)).toNatClampNeg), .int (gX g (x3 + (5 : Int32)).toNatClampNeg)]) (st := [.int v6.1]) dL_law_351 mlRL_27 cv_X12_feed zk_313 (ct_Md_feed (dle (Nat.le_of_ble_eq_true rfl) hd0) he12) (dps (Nat.le_of_ble_eq_true rfl) hd0) rfl rfl (Nat.le_of_ble_eq_true rfl) ?_
  refine z_icmp_eq 1706 dL_law_354 rfl (fun hc13 => ?_) (fun hc13 => ?_)
  · replace h := oT hc13 h
    exact t_Lw_1706 hd0 hk18 x3 v12.2 h
  · replace h := oF hc13 h
    refine z_iconst (M := (mL_law nm)) (v := 0) dL_law_357 rfl ?_
    cases h
def Lw_359 (N : Nat) (xs : Nat → Int32) (k18 : Int32 → Nm → Option Bool) (x3 : Int32) (ν : Nm) : Option Bool :=
  if inb (x3 + (1 : Int32)) N then
  (Fm_end (xs (x3 + (1 : Int32)).toNatClampNeg) ν).bind fun v2 =>
  if inb (x3 + (1 : Int32)) N then
  (Md_end (xs (x3 + (1 : Int32)).toNatClampNeg) v2.2).bind fun v4 =>
  (if v2.1 = v4.1 then
    Lw_1706 N xs k18 x3 v4.2
  else
    some false)
  else none
  else none
set_option maxRecDepth 100000 in
set_option maxHeartbeats 4000000 in
theorem t_Lw_359 {g : GG} {d : Nat} {nm : String} (hd0 : 1000 ≤ d) {k18 : Int32 → Nm → Option Bool} (hk18 : ∀ (x3 : Int32) (ν : Nm), k18 x3 ν = some true → Z g d (600000, 7302250) (mL_law nm) 333 333 262170 18 [(0, .ref 1001), (1, .ref 0), (2, .ref 313), (3, .int x3)] [] (zem ν) (Flaw g)) : ∀ (x3 : Int32) (ν : Nm), Lw_359 (gN g) (gX g) k18 x3 ν = some true → Z g d (600000, 7302250) (mL_law nm) 333 333 262170 359 [(0, .ref 1001), (1, .ref 0), (2, .ref 313), (3, .int x3)] [] (zem ν) (Flaw g) := by
  intro x3 ν h
  unfold Lw_359 at h
  refine z_aload_n dL_law_359 1 rfl ?_
  refine z_aload_n dL_law_360 0 rfl ?_
  refine z_iload_n dL_law_361 3 rfl ?_
  refine z_iconst (M := (mL_law nm)) (v := 1) dL_law_362 rfl ?_
  refine z_iadd dL_law_363 ?_
  obtain ⟨hi1, h⟩ := oif h
  refine z_sald dL_law_364 (inb_vp hi1) ?_
  obtain ⟨v2, he2, h⟩ := obind h
  refine yG_Vi (M := (mL_law nm)) (Y := mX11_end) (d2 := d - 1) (As := [.int (gX g (x3 + (1 : Int32)).toNatClampNeg)]) (st := []) dL_law_365 mlRL_28 cv_X11_end zk_0 (ct_Fm_end (dle (Nat.le_of_ble_eq_true rfl) hd0) he2) (dps (Nat.le_of_ble_eq_true rfl) hd0) rfl rfl (Nat.le_of_ble_eq_true rfl) ?_
  refine z_aload_n dL_law_368 2 rfl ?_
  refine z_aload_n dL_law_369 0 rfl ?_
  refine z_iload_n dL_law_370 3 rfl ?_
  refine z_iconst (M := (mL_law nm)) (v := 1) dL_law_371 rfl ?_
  refine z_iadd dL_law_372 ?_
  obtain ⟨hi3, h⟩ := oif h
  refine z_sald dL_law_373 (inb_vp hi3) ?_
  obtain ⟨v4, he4, h⟩ := obind h
  refine yG_Vi (M := (mL_law nm)) (Y := mX12_end) (d2 := d - 1) (As := [.int (gX g (x3 + (1 : Int32)).toNatClampNeg)]) (st := [.int v2.1]) dL_law_374 mlRL_32 cv_X12_end zk_313 (ct_Md_end (dle (Nat.le_of_ble_eq_true rfl) hd0) he4) (dps (Nat.le_of_ble_eq_true rfl) hd0) rfl rfl (Nat.le_of_ble_eq_true rfl) ?_
  refine z_icmp_eq 1706 dL_law_377 rfl (fun hc5 => ?_) (fun hc5 => ?_)
  · replace h := oT hc5 h
    exact t_Lw_1706 hd0 hk18 x3 v4.2 h
  · replace h := oF hc5 h
    refine z_iconst (M := (mL_law nm)) (v := 0) dL_law_380 rfl ?_
    cases h
def Lw_382 (N : Nat) (xs : Nat → Int32) (k18 : Int32 → Nm → Option Bool) (x3 : Int32) (ν : Nm) : Option Bool :=
  (Fm_text ν).bind fun v1 =>
  (Md_text v1.2).bind fun v2 =>
  (if v1.1 = v2.1 then
    Lw_1706 N xs k18 x3 v2.2
  else
    some false)
set_option maxRecDepth 100000 in
set_option maxHeartbeats 4000000 in
theorem t_Lw_382 {g : GG} {d : Nat} {nm : String} (hd0 : 1000 ≤ d) {k18 : Int32 → Nm → Option Bool} (hk18 : ∀ (x3 : Int32) (ν : Nm), k18 x3 ν = some true → Z g d (600000, 7302250) (mL_law nm) 333 333 262170 18 [(0, .ref 1001), (1, .ref 0), (2, .ref 313), (3, .int x3)] [] (zem ν) (Flaw g)) : ∀ (x3 : Int32) (ν : Nm), Lw_382 (gN g) (gX g) k18 x3 ν = some true → Z g d (600000, 7302250) (mL_law nm) 333 333 262170 382 [(0, .ref 1001), (1, .ref 0), (2, .ref 313), (3, .int x3)] [] (zem ν) (Flaw g) := by
  intro x3 ν h
  unfold Lw_382 at h
  refine z_aload_n dL_law_382 1 rfl ?_
  obtain ⟨v1, he1, h⟩ := obind h
  refine yG_Vi (M := (mL_law nm)) (Y := mX11_text) (d2 := d - 1) (As := []) (st := []) dL_law_383 mlRL_33 cv_X11_text zk_0 (ct_Fm_text (dle (Nat.le_of_ble_eq_true rfl) hd0) he1) (dps (Nat.le_of_ble_eq_true rfl) hd0) rfl rfl (Nat.le_of_ble_eq_true rfl) ?_
  refine z_aload_n dL_law_386 2 rfl ?_
  obtain ⟨v2, he2, h⟩ := obind h
  refine yG_Vi (M := (mL_law nm)) (Y := mX12_text) (d2 := d - 1) (As := []) (st := [.int v1.1]) dL_law_387 mlRL_37 cv_X12_text zk_313 (ct_Md_text (dle (Nat.le_of_ble_eq_true rfl) hd0) he2) (dps (Nat.le_of_ble_eq_true rfl) hd0) rfl rfl (Nat.le_of_ble_eq_true rfl) ?_
  refine z_icmp_eq 1706 dL_law_390 rfl (fun hc3 => ?_) (fun hc3 => ?_)
  · replace h := oT hc3 h
    exact t_Lw_1706 hd0 hk18 x3 v2.2 h
  · replace h := oF hc3 h
    refine z_iconst (M := (mL_law nm)) (v := 0) dL_law_393 rfl ?_
    cases h
def Lw_395 (N : Nat) (xs : Nat → Int32) (k18 : Int32 → Nm → Option Bool) (x3 : Int32) (ν : Nm) : Option Bool :=
  if inb (x3 + (1 : Int32)) N then
  (Fm_fault ν (xs (x3 + (1 : Int32)).toNatClampNeg)).bind fun v2 =>
  if inb (x3 + (1 : Int32)) N then
  (Md_fault ν (xs (x3 + (1 : Int32)).toNatClampNeg)).bind fun v4 =>
  (if v2 = v4 then
    Lw_1706 N xs k18 x3 ν
  else
    some false)
  else none
  else none
set_option maxRecDepth 100000 in
set_option maxHeartbeats 4000000 in
theorem t_Lw_395 {g : GG} {d : Nat} {nm : String} (hd0 : 1000 ≤ d) {k18 : Int32 → Nm → Option Bool} (hk18 : ∀ (x3 : Int32) (ν : Nm), k18 x3 ν = some true → Z g d (600000, 7302250) (mL_law nm) 333 333 262170 18 [(0, .ref 1001), (1, .ref 0), (2, .ref 313), (3, .int x3)] [] (zem ν) (Flaw g)) : ∀ (x3 : Int32) (ν : Nm), Lw_395 (gN g) (gX g) k18 x3 ν = some true → Z g d (600000, 7302250) (mL_law nm) 333 333 262170 395 [(0, .ref 1001), (1, .ref 0), (2, .ref 313), (3, .int x3)] [] (zem ν) (Flaw g) := by
  intro x3 ν h
  unfold Lw_395 at h
  refine z_aload_n dL_law_395 1 rfl ?_
  refine z_aload_n dL_law_396 0 rfl ?_
  refine z_iload_n dL_law_397 3 rfl ?_
  refine z_iconst (M := (mL_law nm)) (v := 1) dL_law_398 rfl ?_
  refine z_iadd dL_law_399 ?_
  obtain ⟨hi1, h⟩ := oif h
  refine z_sald dL_law_400 (inb_vp hi1) ?_
  obtain ⟨v2, he2, h⟩ := obind h
  refine yG_Vi (M := (mL_law nm)) (Y := mX11_fault) (d2 := d - 1) (As := [.int (gX g (x3 + (1 : Int32)).toNatClampNeg)]) (st := []) dL_law_401 mlRL_38 cv_X11_fault zk_0 (ct_Fm_fault (dle (Nat.le_of_ble_eq_true rfl) hd0) he2) (dps (Nat.le_of_ble_eq_true rfl) hd0) rfl rfl (Nat.le_of_ble_eq_true rfl) ?_
  refine z_aload_n dL_law_404 2 rfl ?_
  refine z_aload_n dL_law_405 0 rfl ?_
  refine z_iload_n dL_law_406 3 rfl ?_
  refine z_iconst (M := (mL_law nm)) (v := 1) dL_law_407 rfl ?_
  refine z_iadd dL_law_408 ?_
  obtain ⟨hi3, h⟩ := oif h
  refine z_sald dL_law_409 (inb_vp hi3) ?_
  obtain ⟨v4, he4, h⟩ := obind h
  refine yG_Vi (M := (mL_law nm)) (Y := mX12_fault) (d2 := d - 1) (As := [.int (gX g (x3 + (1 : Int32)).toNatClampNeg)]) (st := [.int v2]) dL_law_410 mlRL_41 cv_X12_fault zk_313 (ct_Md_fault (dle (Nat.le_of_ble_eq_true rfl) hd0) he4) (dps (Nat.le_of_ble_eq_true rfl) hd0) rfl rfl (Nat.le_of_ble_eq_true rfl) ?_
  refine z_icmp_eq 1706 dL_law_413 rfl (fun hc5 => ?_) (fun hc5 => ?_)
  · replace h := oT hc5 h
    exact t_Lw_1706 hd0 hk18 x3 ν h
  · replace h := oF hc5 h
    refine z_iconst (M := (mL_law nm)) (v := 0) dL_law_416 rfl ?_
    cases h
def Lw_418 (N : Nat) (xs : Nat → Int32) (k18 : Int32 → Nm → Option Bool) (x3 : Int32) (ν : Nm) : Option Bool :=
  if inb (x3 + (1 : Int32)) N then
  (Fm_by (xs (x3 + (1 : Int32)).toNatClampNeg) ν).bind fun v2 =>
  if inb (x3 + (1 : Int32)) N then
  (Md_by (xs (x3 + (1 : Int32)).toNatClampNeg) v2.2).bind fun v4 =>
  (if (b2i v2.1) = (b2i v4.1) then
    Lw_1706 N xs k18 x3 v4.2
  else
    some false)
  else none
  else none
set_option maxRecDepth 100000 in
set_option maxHeartbeats 4000000 in
theorem t_Lw_418 {g : GG} {d : Nat} {nm : String} (hd0 : 1000 ≤ d) {k18 : Int32 → Nm → Option Bool} (hk18 : ∀ (x3 : Int32) (ν : Nm), k18 x3 ν = some true → Z g d (600000, 7302250) (mL_law nm) 333 333 262170 18 [(0, .ref 1001), (1, .ref 0), (2, .ref 313), (3, .int x3)] [] (zem ν) (Flaw g)) : ∀ (x3 : Int32) (ν : Nm), Lw_418 (gN g) (gX g) k18 x3 ν = some true → Z g d (600000, 7302250) (mL_law nm) 333 333 262170 418 [(0, .ref 1001), (1, .ref 0), (2, .ref 313), (3, .int x3)] [] (zem ν) (Flaw g) := by
  intro x3 ν h
  unfold Lw_418 at h
  refine z_aload_n dL_law_418 1 rfl ?_
  refine z_aload_n dL_law_419 0 rfl ?_
  refine z_iload_n dL_law_420 3 rfl ?_
  refine z_iconst (M := (mL_law nm)) (v := 1) dL_law_421 rfl ?_
  refine z_iadd dL_law_422 ?_
  obtain ⟨hi1, h⟩ := oif h
  refine z_sald dL_law_423 (inb_vp hi1) ?_
  obtain ⟨v2, he2, h⟩ := obind h
  refine yG_Vi (M := (mL_law nm)) (Y := mX11_by) (d2 := d - 1) (As := [.int (gX g (x3 + (1 : Int32)).toNatClampNeg)]) (st := []) dL_law_424 mlRL_42 cv_X11_by zk_0 (ct_Fm_by (dle (Nat.le_of_ble_eq_true rfl) hd0) he2) (dps (Nat.le_of_ble_eq_true rfl) hd0) rfl rfl (Nat.le_of_ble_eq_true rfl) ?_
  refine z_aload_n dL_law_427 2 rfl ?_
  refine z_aload_n dL_law_428 0 rfl ?_
  refine z_iload_n dL_law_429 3 rfl ?_
  refine z_iconst (M := (mL_law nm)) (v := 1) dL_law_430 rfl ?_
  refine z_iadd dL_law_431 ?_
  obtain ⟨hi3, h⟩ := oif h
  refine z_sald dL_law_432 (inb_vp hi3) ?_
  obtain ⟨v4, he4, h⟩ := obind h
  refine yG_Vi (M := (mL_law nm)) (Y := mX12_by) (d2 := d - 1) (As := [.int (gX g (x3 + (1 : Int32)).toNatClampNeg)]) (st := [.int (b2i v2.1)]) dL_law_433 mlRL_45 cv_X12_by zk_313 (ct_Md_by (dle (Nat.le_of_ble_eq_true rfl) hd0) he4) (dps (Nat.le_of_ble_eq_true rfl) hd0) rfl rfl (Nat.le_of_ble_eq_true rfl) ?_
  refine z_icmp_eq 1706 dL_law_436 rfl (fun hc5 => ?_) (fun hc5 => ?_)
  · replace h := oT hc5 h
    exact t_Lw_1706 hd0 hk18 x3 v4.2 h
  · replace h := oF hc5 h
    refine z_iconst (M := (mL_law nm)) (v := 0) dL_law_439 rfl ?_
    cases h
def Lw_482 (N : Nat) (xs : Nat → Int32) (k18 : Int32 → Nm → Option Bool) (x3 : Int32) (s0 : Int32) (s1 : Int32) (s3 : Int32) (ν : Nm) : Option Bool :=
  (Md_light s1 s0 ν).bind fun v1 =>
  (if s3 = v1.1 then
    Lw_1706 N xs k18 x3 v1.2
  else
    some false)
set_option maxRecDepth 100000 in
set_option maxHeartbeats 4000000 in
theorem t_Lw_482 {g : GG} {d : Nat} {nm : String} (hd0 : 1000 ≤ d) {k18 : Int32 → Nm → Option Bool} (hk18 : ∀ (x3 : Int32) (ν : Nm), k18 x3 ν = some true → Z g d (600000, 7302250) (mL_law nm) 333 333 262170 18 [(0, .ref 1001), (1, .ref 0), (2, .ref 313), (3, .int x3)] [] (zem ν) (Flaw g)) : ∀ (x3 : Int32) (s0 : Int32) (s1 : Int32) (s3 : Int32) (ν : Nm), Lw_482 (gN g) (gX g) k18 x3 s0 s1 s3 ν = some true → Z g d (600000, 7302250) (mL_law nm) 333 333 262170 482 [(0, .ref 1001), (1, .ref 0), (2, .ref 313), (3, .int x3)] [.int s0, .int s1, .ref 313, .int s3] (zem ν) (Flaw g) := by
  intro x3 s0 s1 s3 ν h
  unfold Lw_482 at h
  obtain ⟨v1, he1, h⟩ := obind h
  refine yG_Vi (M := (mL_law nm)) (Y := mX12_light) (d2 := d - 1) (As := [.int s1, .int s0]) (st := [.int s3]) dL_law_482 mlRL_50 cv_X12_light zk_313 (ct_Md_light (dle (Nat.le_of_ble_eq_true rfl) hd0) he1) (dps (Nat.le_of_ble_eq_true rfl) hd0) rfl rfl (Nat.le_of_ble_eq_true rfl) ?_
  refine z_icmp_eq 1706 dL_law_485 rfl (fun hc2 => ?_) (fun hc2 => ?_)
  · replace h := oT hc2 h
    exact t_Lw_1706 hd0 hk18 x3 v1.2 h
  · replace h := oF hc2 h
    refine z_iconst (M := (mL_law nm)) (v := 0) dL_law_488 rfl ?_
    cases h
def Lw_460 (N : Nat) (xs : Nat → Int32) (k18 : Int32 → Nm → Option Bool) (x3 : Int32) (s0 : Int32) (s1 : Int32) (ν : Nm) : Option Bool :=
  (Fm_light s1 s0 ν).bind fun v1 =>
  if inb (x3 + (1 : Int32)) N then
  if inb (x3 + (2 : Int32)) N then
  (if (xs (x3 + (2 : Int32)).toNatClampNeg) = 0 then
    Lw_482 N xs k18 x3 (0 : Int32) (xs (x3 + (1 : Int32)).toNatClampNeg) v1.1 v1.2
  else
    Lw_482 N xs k18 x3 (1 : Int32) (xs (x3 + (1 : Int32)).toNatClampNeg) v1.1 v1.2)
  else none
  else none
set_option maxRecDepth 100000 in
set_option maxHeartbeats 4000000 in
theorem t_Lw_460 {g : GG} {d : Nat} {nm : String} (hd0 : 1000 ≤ d) {k18 : Int32 → Nm → Option Bool} (hk18 : ∀ (x3 : Int32) (ν : Nm), k18 x3 ν = some true → Z g d (600000, 7302250) (mL_law nm) 333 333 262170 18 [(0, .ref 1001), (1, .ref 0), (2, .ref 313), (3, .int x3)] [] (zem ν) (Flaw g)) : ∀ (x3 : Int32) (s0 : Int32) (s1 : Int32) (ν : Nm), Lw_460 (gN g) (gX g) k18 x3 s0 s1 ν = some true → Z g d (600000, 7302250) (mL_law nm) 333 333 262170 460 [(0, .ref 1001), (1, .ref 0), (2, .ref 313), (3, .int x3)] [.int s0, .int s1, .ref 0] (zem ν) (Flaw g) := by
  intro x3 s0 s1 ν h
  unfold Lw_460 at h
  obtain ⟨v1, he1, h⟩ := obind h
  refine yG_Vi (M := (mL_law nm)) (Y := mX11_light) (d2 := d - 1) (As := [.int s1, .int s0]) (st := []) dL_law_460 mlRL_46 cv_X11_light zk_0 (ct_Fm_light (dle (Nat.le_of_ble_eq_true rfl) hd0) he1) (dps (Nat.le_of_ble_eq_true rfl) hd0) rfl rfl (Nat.le_of_ble_eq_true rfl) ?_
  refine z_aload_n dL_law_463 2 rfl ?_
  refine z_aload_n dL_law_464 0 rfl ?_
  refine z_iload_n dL_law_465 3 rfl ?_
  refine z_iconst (M := (mL_law nm)) (v := 1) dL_law_466 rfl ?_
  refine z_iadd dL_law_467 ?_
  obtain ⟨hi2, h⟩ := oif h
  refine z_sald dL_law_468 (inb_vp hi2) ?_
  refine z_aload_n dL_law_469 0 rfl ?_
  refine z_iload_n dL_law_470 3 rfl ?_
  refine z_iconst (M := (mL_law nm)) (v := 2) dL_law_471 rfl ?_
  refine z_iadd dL_law_472 ?_
  obtain ⟨hi3, h⟩ := oif h
  refine z_sald dL_law_473 (inb_vp hi3) ?_
  refine z_if_eq 481 dL_law_474 rfl (fun hc4 => ?_) (fun hc4 => ?_)
  · replace h := oT hc4 h
    refine z_iconst (M := (mL_law nm)) (v := 0) dL_law_481 rfl ?_
    exact t_Lw_482 hd0 hk18 x3 (0 : Int32) (gX g (x3 + (1 : Int32)).toNatClampNeg) v1.1 v1.2 h
  · replace h := oF hc4 h
    refine z_iconst (M := (mL_law nm)) (v := 1) dL_law_477 rfl ?_
    refine z_goto 482 dL_law_478 rfl ?_
    exact t_Lw_482 hd0 hk18 x3 (1 : Int32) (gX g (x3 + (1 : Int32)).toNatClampNeg) v1.1 v1.2 h
def Lw_441 (N : Nat) (xs : Nat → Int32) (k18 : Int32 → Nm → Option Bool) (x3 : Int32) (ν : Nm) : Option Bool :=
  if inb (x3 + (1 : Int32)) N then
  if inb (x3 + (2 : Int32)) N then
  (if (xs (x3 + (2 : Int32)).toNatClampNeg) = 0 then
    Lw_460 N xs k18 x3 (0 : Int32) (xs (x3 + (1 : Int32)).toNatClampNeg) ν
  else
    Lw_460 N xs k18 x3 (1 : Int32) (xs (x3 + (1 : Int32)).toNatClampNeg) ν)
  else none
  else none
set_option maxRecDepth 100000 in
set_option maxHeartbeats 4000000 in
theorem t_Lw_441 {g : GG} {d : Nat} {nm : String} (hd0 : 1000 ≤ d) {k18 : Int32 → Nm → Option Bool} (hk18 : ∀ (x3 : Int32) (ν : Nm), k18 x3 ν = some true → Z g d (600000, 7302250) (mL_law nm) 333 333 262170 18 [(0, .ref 1001), (1, .ref 0), (2, .ref 313), (3, .int x3)] [] (zem ν) (Flaw g)) : ∀ (x3 : Int32) (ν : Nm), Lw_441 (gN g) (gX g) k18 x3 ν = some true → Z g d (600000, 7302250) (mL_law nm) 333 333 262170 441 [(0, .ref 1001), (1, .ref 0), (2, .ref 313), (3, .int x3)] [] (zem ν) (Flaw g) := by
  intro x3 ν h
  unfold Lw_441 at h
  refine z_aload_n dL_law_441 1 rfl ?_
  refine z_aload_n dL_law_442 0 rfl ?_
  refine z_iload_n dL_law_443 3 rfl ?_
  refine z_iconst (M := (mL_law nm)) (v := 1) dL_law_444 rfl ?_
  refine z_iadd dL_law_445 ?_
  obtain ⟨hi1, h⟩ := oif h
  refine z_sald dL_law_446 (inb_vp hi1) ?_
  refine z_aload_n dL_law_447 0 rfl ?_
  refine z_iload_n dL_law_448 3 rfl ?_
  refine z_iconst (M := (mL_law nm)) (v := 2) dL_law_449 rfl ?_
  refine z_iadd dL_law_450 ?_
  obtain ⟨hi2, h⟩ := oif h
  refine z_sald dL_law_451 (inb_vp hi2) ?_
  refine z_if_eq 459 dL_law_452 rfl (fun hc3 => ?_) (fun hc3 => ?_)
  · replace h := oT hc3 h
    refine z_iconst (M := (mL_law nm)) (v := 0) dL_law_459 rfl ?_
    exact t_Lw_460 hd0 hk18 x3 (0 : Int32) (gX g (x3 + (1 : Int32)).toNatClampNeg) ν h
  · replace h := oF hc3 h
    refine z_iconst (M := (mL_law nm)) (v := 1) dL_law_455 rfl ?_
    refine z_goto 460 dL_law_456 rfl ?_
    exact t_Lw_460 hd0 hk18 x3 (1 : Int32) (gX g (x3 + (1 : Int32)).toNatClampNeg) ν h
def Lw_531 (N : Nat) (xs : Nat → Int32) (k18 : Int32 → Nm → Option Bool) (x3 : Int32) (s0 : Int32) (s1 : Int32) (s3 : Int32) (ν : Nm) : Option Bool :=
  (Md_snuff s1 s0 ν).bind fun v1 =>
  (if s3 = (b2i v1.1) then
    Lw_1706 N xs k18 x3 v1.2
  else
    some false)
set_option maxRecDepth 100000 in
set_option maxHeartbeats 4000000 in
theorem t_Lw_531 {g : GG} {d : Nat} {nm : String} (hd0 : 1000 ≤ d) {k18 : Int32 → Nm → Option Bool} (hk18 : ∀ (x3 : Int32) (ν : Nm), k18 x3 ν = some true → Z g d (600000, 7302250) (mL_law nm) 333 333 262170 18 [(0, .ref 1001), (1, .ref 0), (2, .ref 313), (3, .int x3)] [] (zem ν) (Flaw g)) : ∀ (x3 : Int32) (s0 : Int32) (s1 : Int32) (s3 : Int32) (ν : Nm), Lw_531 (gN g) (gX g) k18 x3 s0 s1 s3 ν = some true → Z g d (600000, 7302250) (mL_law nm) 333 333 262170 531 [(0, .ref 1001), (1, .ref 0), (2, .ref 313), (3, .int x3)] [.int s0, .int s1, .ref 313, .int s3] (zem ν) (Flaw g) := by
  intro x3 s0 s1 s3 ν h
  unfold Lw_531 at h
  obtain ⟨v1, he1, h⟩ := obind h
  refine yG_Vi (M := (mL_law nm)) (Y := mX12_snuff) (d2 := d - 1) (As := [.int s1, .int s0]) (st := [.int s3]) dL_law_531 mlRL_55 cv_X12_snuff zk_313 (ct_Md_snuff (dle (Nat.le_of_ble_eq_true rfl) hd0) he1) (dps (Nat.le_of_ble_eq_true rfl) hd0) rfl rfl (Nat.le_of_ble_eq_true rfl) ?_
  refine z_icmp_eq 1706 dL_law_534 rfl (fun hc2 => ?_) (fun hc2 => ?_)
  · replace h := oT hc2 h
    exact t_Lw_1706 hd0 hk18 x3 v1.2 h
  · replace h := oF hc2 h
    refine z_iconst (M := (mL_law nm)) (v := 0) dL_law_537 rfl ?_
    cases h
def Lw_509 (N : Nat) (xs : Nat → Int32) (k18 : Int32 → Nm → Option Bool) (x3 : Int32) (s0 : Int32) (s1 : Int32) (ν : Nm) : Option Bool :=
  (Fm_snuff s1 s0 ν).bind fun v1 =>
  if inb (x3 + (1 : Int32)) N then
  if inb (x3 + (2 : Int32)) N then
  (if (xs (x3 + (2 : Int32)).toNatClampNeg) = 0 then
    Lw_531 N xs k18 x3 (0 : Int32) (xs (x3 + (1 : Int32)).toNatClampNeg) (b2i v1.1) v1.2
  else
    Lw_531 N xs k18 x3 (1 : Int32) (xs (x3 + (1 : Int32)).toNatClampNeg) (b2i v1.1) v1.2)
  else none
  else none
set_option maxRecDepth 100000 in
set_option maxHeartbeats 4000000 in
theorem t_Lw_509 {g : GG} {d : Nat} {nm : String} (hd0 : 1000 ≤ d) {k18 : Int32 → Nm → Option Bool} (hk18 : ∀ (x3 : Int32) (ν : Nm), k18 x3 ν = some true → Z g d (600000, 7302250) (mL_law nm) 333 333 262170 18 [(0, .ref 1001), (1, .ref 0), (2, .ref 313), (3, .int x3)] [] (zem ν) (Flaw g)) : ∀ (x3 : Int32) (s0 : Int32) (s1 : Int32) (ν : Nm), Lw_509 (gN g) (gX g) k18 x3 s0 s1 ν = some true → Z g d (600000, 7302250) (mL_law nm) 333 333 262170 509 [(0, .ref 1001), (1, .ref 0), (2, .ref 313), (3, .int x3)] [.int s0, .int s1, .ref 0] (zem ν) (Flaw g) := by
  intro x3 s0 s1 ν h
  unfold Lw_509 at h
  obtain ⟨v1, he1, h⟩ := obind h
  refine yG_Vi (M := (mL_law nm)) (Y := mX11_snuff) (d2 := d - 1) (As := [.int s1, .int s0]) (st := []) dL_law_509 mlRL_51 cv_X11_snuff zk_0 (ct_Fm_snuff (dle (Nat.le_of_ble_eq_true rfl) hd0) he1) (dps (Nat.le_of_ble_eq_true rfl) hd0) rfl rfl (Nat.le_of_ble_eq_true rfl) ?_
  refine z_aload_n dL_law_512 2 rfl ?_
  refine z_aload_n dL_law_513 0 rfl ?_
  refine z_iload_n dL_law_514 3 rfl ?_
  refine z_iconst (M := (mL_law nm)) (v := 1) dL_law_515 rfl ?_
  refine z_iadd dL_law_516 ?_
  obtain ⟨hi2, h⟩ := oif h
  refine z_sald dL_law_517 (inb_vp hi2) ?_
  refine z_aload_n dL_law_518 0 rfl ?_
  refine z_iload_n dL_law_519 3 rfl ?_
  refine z_iconst (M := (mL_law nm)) (v := 2) dL_law_520 rfl ?_
  refine z_iadd dL_law_521 ?_
  obtain ⟨hi3, h⟩ := oif h
  refine z_sald dL_law_522 (inb_vp hi3) ?_
  refine z_if_eq 530 dL_law_523 rfl (fun hc4 => ?_) (fun hc4 => ?_)
  · replace h := oT hc4 h
    refine z_iconst (M := (mL_law nm)) (v := 0) dL_law_530 rfl ?_
    exact t_Lw_531 hd0 hk18 x3 (0 : Int32) (gX g (x3 + (1 : Int32)).toNatClampNeg) (b2i v1.1) v1.2 h
  · replace h := oF hc4 h
    refine z_iconst (M := (mL_law nm)) (v := 1) dL_law_526 rfl ?_
    refine z_goto 531 dL_law_527 rfl ?_
    exact t_Lw_531 hd0 hk18 x3 (1 : Int32) (gX g (x3 + (1 : Int32)).toNatClampNeg) (b2i v1.1) v1.2 h
def Lw_490 (N : Nat) (xs : Nat → Int32) (k18 : Int32 → Nm → Option Bool) (x3 : Int32) (ν : Nm) : Option Bool :=
  if inb (x3 + (1 : Int32)) N then
  if inb (x3 + (2 : Int32)) N then
  (if (xs (x3 + (2 : Int32)).toNatClampNeg) = 0 then
    Lw_509 N xs k18 x3 (0 : Int32) (xs (x3 + (1 : Int32)).toNatClampNeg) ν
  else
    Lw_509 N xs k18 x3 (1 : Int32) (xs (x3 + (1 : Int32)).toNatClampNeg) ν)
  else none
  else none
set_option maxRecDepth 100000 in
set_option maxHeartbeats 4000000 in
theorem t_Lw_490 {g : GG} {d : Nat} {nm : String} (hd0 : 1000 ≤ d) {k18 : Int32 → Nm → Option Bool} (hk18 : ∀ (x3 : Int32) (ν : Nm), k18 x3 ν = some true → Z g d (600000, 7302250) (mL_law nm) 333 333 262170 18 [(0, .ref 1001), (1, .ref 0), (2, .ref 313), (3, .int x3)] [] (zem ν) (Flaw g)) : ∀ (x3 : Int32) (ν : Nm), Lw_490 (gN g) (gX g) k18 x3 ν = some true → Z g d (600000, 7302250) (mL_law nm) 333 333 262170 490 [(0, .ref 1001), (1, .ref 0), (2, .ref 313), (3, .int x3)] [] (zem ν) (Flaw g) := by
  intro x3 ν h
  unfold Lw_490 at h
  refine z_aload_n dL_law_490 1 rfl ?_
  refine z_aload_n dL_law_491 0 rfl ?_
  refine z_iload_n dL_law_492 3 rfl ?_
  refine z_iconst (M := (mL_law nm)) (v := 1) dL_law_493 rfl ?_
  refine z_iadd dL_law_494 ?_
  obtain ⟨hi1, h⟩ := oif h
  refine z_sald dL_law_495 (inb_vp hi1) ?_
  refine z_aload_n dL_law_496 0 rfl ?_
  refine z_iload_n dL_law_497 3 rfl ?_
  refine z_iconst (M := (mL_law nm)) (v := 2) dL_law_498 rfl ?_
  refine z_iadd dL_law_499 ?_
  obtain ⟨hi2, h⟩ := oif h
  refine z_sald dL_law_500 (inb_vp hi2) ?_
  refine z_if_eq 508 dL_law_501 rfl (fun hc3 => ?_) (fun hc3 => ?_)
  · replace h := oT hc3 h
    refine z_iconst (M := (mL_law nm)) (v := 0) dL_law_508 rfl ?_
    exact t_Lw_509 hd0 hk18 x3 (0 : Int32) (gX g (x3 + (1 : Int32)).toNatClampNeg) ν h
  · replace h := oF hc3 h
    refine z_iconst (M := (mL_law nm)) (v := 1) dL_law_504 rfl ?_
    refine z_goto 509 dL_law_505 rfl ?_
    exact t_Lw_509 hd0 hk18 x3 (1 : Int32) (gX g (x3 + (1 : Int32)).toNatClampNeg) ν h
def Lw_539 (N : Nat) (xs : Nat → Int32) (k18 : Int32 → Nm → Option Bool) (x3 : Int32) (ν : Nm) : Option Bool :=
  if inb (x3 + (1 : Int32)) N then
  (Fm_renew (xs (x3 + (1 : Int32)).toNatClampNeg) ν).bind fun v2 =>
  if inb (x3 + (1 : Int32)) N then
  (Md_renew (xs (x3 + (1 : Int32)).toNatClampNeg) v2.2).bind fun v4 =>
  (if (b2i v2.1) = (b2i v4.1) then
    Lw_1706 N xs k18 x3 v4.2
  else
    some false)
  else none
  else none
set_option maxRecDepth 100000 in
set_option maxHeartbeats 4000000 in
theorem t_Lw_539 {g : GG} {d : Nat} {nm : String} (hd0 : 1000 ≤ d) {k18 : Int32 → Nm → Option Bool} (hk18 : ∀ (x3 : Int32) (ν : Nm), k18 x3 ν = some true → Z g d (600000, 7302250) (mL_law nm) 333 333 262170 18 [(0, .ref 1001), (1, .ref 0), (2, .ref 313), (3, .int x3)] [] (zem ν) (Flaw g)) : ∀ (x3 : Int32) (ν : Nm), Lw_539 (gN g) (gX g) k18 x3 ν = some true → Z g d (600000, 7302250) (mL_law nm) 333 333 262170 539 [(0, .ref 1001), (1, .ref 0), (2, .ref 313), (3, .int x3)] [] (zem ν) (Flaw g) := by
  intro x3 ν h
  unfold Lw_539 at h
  refine z_aload_n dL_law_539 1 rfl ?_
  refine z_aload_n dL_law_540 0 rfl ?_
  refine z_iload_n dL_law_541 3 rfl ?_
  refine z_iconst (M := (mL_law nm)) (v := 1) dL_law_542 rfl ?_
  refine z_iadd dL_law_543 ?_
  obtain ⟨hi1, h⟩ := oif h
  refine z_sald dL_law_544 (inb_vp hi1) ?_
  obtain ⟨v2, he2, h⟩ := obind h
  refine yG_Vi (M := (mL_law nm)) (Y := mX11_renew) (d2 := d - 1) (As := [.int (gX g (x3 + (1 : Int32)).toNatClampNeg)]) (st := []) dL_law_545 mlRL_56 cv_X11_renew zk_0 (ct_Fm_renew (dle (Nat.le_of_ble_eq_true rfl) hd0) he2) (dps (Nat.le_of_ble_eq_true rfl) hd0) rfl rfl (Nat.le_of_ble_eq_true rfl) ?_
  refine z_aload_n dL_law_548 2 rfl ?_
  refine z_aload_n dL_law_549 0 rfl ?_
  refine z_iload_n dL_law_550 3 rfl ?_
  refine z_iconst (M := (mL_law nm)) (v := 1) dL_law_551 rfl ?_
  refine z_iadd dL_law_552 ?_
  obtain ⟨hi3, h⟩ := oif h
  refine z_sald dL_law_553 (inb_vp hi3) ?_
  obtain ⟨v4, he4, h⟩ := obind h
  refine yG_Vi (M := (mL_law nm)) (Y := mX12_renew) (d2 := d - 1) (As := [.int (gX g (x3 + (1 : Int32)).toNatClampNeg)]) (st := [.int (b2i v2.1)]) dL_law_554 mlRL_59 cv_X12_renew zk_313 (ct_Md_renew (dle (Nat.le_of_ble_eq_true rfl) hd0) he4) (dps (Nat.le_of_ble_eq_true rfl) hd0) rfl rfl (Nat.le_of_ble_eq_true rfl) ?_
  refine z_icmp_eq 1706 dL_law_557 rfl (fun hc5 => ?_) (fun hc5 => ?_)
  · replace h := oT hc5 h
    exact t_Lw_1706 hd0 hk18 x3 v4.2 h
  · replace h := oF hc5 h
    refine z_iconst (M := (mL_law nm)) (v := 0) dL_law_560 rfl ?_
    cases h
def Lw_562 (N : Nat) (xs : Nat → Int32) (k18 : Int32 → Nm → Option Bool) (x3 : Int32) (ν : Nm) : Option Bool :=
  (Fm_burn ν).bind fun v1 =>
  (Md_burn v1.2).bind fun v2 =>
  (if v1.1 = v2.1 then
    Lw_1706 N xs k18 x3 v2.2
  else
    some false)
set_option maxRecDepth 100000 in
set_option maxHeartbeats 4000000 in
theorem t_Lw_562 {g : GG} {d : Nat} {nm : String} (hd0 : 1000 ≤ d) {k18 : Int32 → Nm → Option Bool} (hk18 : ∀ (x3 : Int32) (ν : Nm), k18 x3 ν = some true → Z g d (600000, 7302250) (mL_law nm) 333 333 262170 18 [(0, .ref 1001), (1, .ref 0), (2, .ref 313), (3, .int x3)] [] (zem ν) (Flaw g)) : ∀ (x3 : Int32) (ν : Nm), Lw_562 (gN g) (gX g) k18 x3 ν = some true → Z g d (600000, 7302250) (mL_law nm) 333 333 262170 562 [(0, .ref 1001), (1, .ref 0), (2, .ref 313), (3, .int x3)] [] (zem ν) (Flaw g) := by
  intro x3 ν h
  unfold Lw_562 at h
  refine z_aload_n dL_law_562 1 rfl ?_
  obtain ⟨v1, he1, h⟩ := obind h
  refine yG_Vi (M := (mL_law nm)) (Y := mX11_burn) (d2 := d - 1) (As := []) (st := []) dL_law_563 mlRL_60 cv_X11_burn zk_0 (ct_Fm_burn (dle (Nat.le_of_ble_eq_true rfl) hd0) he1) (dps (Nat.le_of_ble_eq_true rfl) hd0) rfl rfl (Nat.le_of_ble_eq_true rfl) ?_
  refine z_aload_n dL_law_566 2 rfl ?_
  obtain ⟨v2, he2, h⟩ := obind h
  refine yG_Vi (M := (mL_law nm)) (Y := mX12_burn) (d2 := d - 1) (As := []) (st := [.int v1.1]) dL_law_567 mlRL_63 cv_X12_burn zk_313 (ct_Md_burn (dle (Nat.le_of_ble_eq_true rfl) hd0) he2) (dps (Nat.le_of_ble_eq_true rfl) hd0) rfl rfl (Nat.le_of_ble_eq_true rfl) ?_
  refine z_icmp_eq 1706 dL_law_570 rfl (fun hc3 => ?_) (fun hc3 => ?_)
  · replace h := oT hc3 h
    exact t_Lw_1706 hd0 hk18 x3 v2.2 h
  · replace h := oF hc3 h
    refine z_iconst (M := (mL_law nm)) (v := 0) dL_law_573 rfl ?_
    cases h
def Lw_575 (N : Nat) (xs : Nat → Int32) (k18 : Int32 → Nm → Option Bool) (x3 : Int32) (ν : Nm) : Option Bool :=
  if inb (x3 + (1 : Int32)) N then
  (Fm_minute (xs (x3 + (1 : Int32)).toNatClampNeg) ν).bind fun v2 =>
  if inb (x3 + (1 : Int32)) N then
  (Md_minute (xs (x3 + (1 : Int32)).toNatClampNeg) v2.2).bind fun v4 =>
  (if v2.1 = v4.1 then
    Lw_1706 N xs k18 x3 v4.2
  else
    some false)
  else none
  else none
set_option maxRecDepth 100000 in
set_option maxHeartbeats 4000000 in
theorem t_Lw_575 {g : GG} {d : Nat} {nm : String} (hd0 : 1000 ≤ d) {k18 : Int32 → Nm → Option Bool} (hk18 : ∀ (x3 : Int32) (ν : Nm), k18 x3 ν = some true → Z g d (600000, 7302250) (mL_law nm) 333 333 262170 18 [(0, .ref 1001), (1, .ref 0), (2, .ref 313), (3, .int x3)] [] (zem ν) (Flaw g)) : ∀ (x3 : Int32) (ν : Nm), Lw_575 (gN g) (gX g) k18 x3 ν = some true → Z g d (600000, 7302250) (mL_law nm) 333 333 262170 575 [(0, .ref 1001), (1, .ref 0), (2, .ref 313), (3, .int x3)] [] (zem ν) (Flaw g) := by
  intro x3 ν h
  unfold Lw_575 at h
  refine z_aload_n dL_law_575 1 rfl ?_
  refine z_aload_n dL_law_576 0 rfl ?_
  refine z_iload_n dL_law_577 3 rfl ?_
  refine z_iconst (M := (mL_law nm)) (v := 1) dL_law_578 rfl ?_
  refine z_iadd dL_law_579 ?_
  obtain ⟨hi1, h⟩ := oif h
  refine z_sald dL_law_580 (inb_vp hi1) ?_
  obtain ⟨v2, he2, h⟩ := obind h
  refine yG_Vi (M := (mL_law nm)) (Y := mX11_minute) (d2 := d - 1) (As := [.int (gX g (x3 + (1 : Int32)).toNatClampNeg)]) (st := []) dL_law_581 mlRL_64 cv_X11_minute zk_0 (ct_Fm_minute (dle (Nat.le_of_ble_eq_true rfl) hd0) he2) (dps (Nat.le_of_ble_eq_true rfl) hd0) rfl rfl (Nat.le_of_ble_eq_true rfl) ?_
  refine z_aload_n dL_law_584 2 rfl ?_
  refine z_aload_n dL_law_585 0 rfl ?_
  refine z_iload_n dL_law_586 3 rfl ?_
  refine z_iconst (M := (mL_law nm)) (v := 1) dL_law_587 rfl ?_
  refine z_iadd dL_law_588 ?_
  obtain ⟨hi3, h⟩ := oif h
  refine z_sald dL_law_589 (inb_vp hi3) ?_
  obtain ⟨v4, he4, h⟩ := obind h
  refine yG_Vi (M := (mL_law nm)) (Y := mX12_minute) (d2 := d - 1) (As := [.int (gX g (x3 + (1 : Int32)).toNatClampNeg)]) (st := [.int v2.1]) dL_law_590 mlRL_67 cv_X12_minute zk_313 (ct_Md_minute (dle (Nat.le_of_ble_eq_true rfl) hd0) he4) (dps (Nat.le_of_ble_eq_true rfl) hd0) rfl rfl (Nat.le_of_ble_eq_true rfl) ?_
  refine z_icmp_eq 1706 dL_law_593 rfl (fun hc5 => ?_) (fun hc5 => ?_)
  · replace h := oT hc5 h
    exact t_Lw_1706 hd0 hk18 x3 v4.2 h
  · replace h := oF hc5 h
    refine z_iconst (M := (mL_law nm)) (v := 0) dL_law_596 rfl ?_
    cases h
def Lw_598 (N : Nat) (xs : Nat → Int32) (k18 : Int32 → Nm → Option Bool) (x3 : Int32) (ν : Nm) : Option Bool :=
  if inb (x3 + (1 : Int32)) N then
  (Fm_played (xs (x3 + (1 : Int32)).toNatClampNeg) ν).bind fun v2 =>
  if inb (x3 + (1 : Int32)) N then
  (Md_played (xs (x3 + (1 : Int32)).toNatClampNeg) v2.2).bind fun v4 =>
  (if v2.1 = v4.1 then
    Lw_1706 N xs k18 x3 v4.2
  else
    some false)
  else none
  else none
set_option maxRecDepth 100000 in
set_option maxHeartbeats 4000000 in
theorem t_Lw_598 {g : GG} {d : Nat} {nm : String} (hd0 : 1000 ≤ d) {k18 : Int32 → Nm → Option Bool} (hk18 : ∀ (x3 : Int32) (ν : Nm), k18 x3 ν = some true → Z g d (600000, 7302250) (mL_law nm) 333 333 262170 18 [(0, .ref 1001), (1, .ref 0), (2, .ref 313), (3, .int x3)] [] (zem ν) (Flaw g)) : ∀ (x3 : Int32) (ν : Nm), Lw_598 (gN g) (gX g) k18 x3 ν = some true → Z g d (600000, 7302250) (mL_law nm) 333 333 262170 598 [(0, .ref 1001), (1, .ref 0), (2, .ref 313), (3, .int x3)] [] (zem ν) (Flaw g) := by
  intro x3 ν h
  unfold Lw_598 at h
  refine z_aload_n dL_law_598 1 rfl ?_
  refine z_aload_n dL_law_599 0 rfl ?_
  refine z_iload_n dL_law_600 3 rfl ?_
  refine z_iconst (M := (mL_law nm)) (v := 1) dL_law_601 rfl ?_
  refine z_iadd dL_law_602 ?_
  obtain ⟨hi1, h⟩ := oif h
  refine z_sald dL_law_603 (inb_vp hi1) ?_
  obtain ⟨v2, he2, h⟩ := obind h
  refine yG_Vi (M := (mL_law nm)) (Y := mX11_played) (d2 := d - 1) (As := [.int (gX g (x3 + (1 : Int32)).toNatClampNeg)]) (st := []) dL_law_604 mlRL_68 cv_X11_played zk_0 (ct_Fm_played (dle (Nat.le_of_ble_eq_true rfl) hd0) he2) (dps (Nat.le_of_ble_eq_true rfl) hd0) rfl rfl (Nat.le_of_ble_eq_true rfl) ?_
  refine z_aload_n dL_law_607 2 rfl ?_
  refine z_aload_n dL_law_608 0 rfl ?_
  refine z_iload_n dL_law_609 3 rfl ?_
  refine z_iconst (M := (mL_law nm)) (v := 1) dL_law_610 rfl ?_
  refine z_iadd dL_law_611 ?_
  obtain ⟨hi3, h⟩ := oif h
  refine z_sald dL_law_612 (inb_vp hi3) ?_
  obtain ⟨v4, he4, h⟩ := obind h
  refine yG_Vi (M := (mL_law nm)) (Y := mX12_played) (d2 := d - 1) (As := [.int (gX g (x3 + (1 : Int32)).toNatClampNeg)]) (st := [.int v2.1]) dL_law_613 mlRL_71 cv_X12_played zk_313 (ct_Md_played (dle (Nat.le_of_ble_eq_true rfl) hd0) he4) (dps (Nat.le_of_ble_eq_true rfl) hd0) rfl rfl (Nat.le_of_ble_eq_true rfl) ?_
  refine z_icmp_eq 1706 dL_law_616 rfl (fun hc5 => ?_) (fun hc5 => ?_)
  · replace h := oT hc5 h
    exact t_Lw_1706 hd0 hk18 x3 v4.2 h
  · replace h := oF hc5 h
    refine z_iconst (M := (mL_law nm)) (v := 0) dL_law_619 rfl ?_
    cases h
def Lw_621 (N : Nat) (xs : Nat → Int32) (k18 : Int32 → Nm → Option Bool) (x3 : Int32) (ν : Nm) : Option Bool :=
  if inb (x3 + (1 : Int32)) N then
  if inb (x3 + (2 : Int32)) N then
  (Fm_shifts (xs (x3 + (1 : Int32)).toNatClampNeg) (xs (x3 + (2 : Int32)).toNatClampNeg) ν).bind fun v3 =>
  if inb (x3 + (1 : Int32)) N then
  if inb (x3 + (2 : Int32)) N then
  (Md_shifts (xs (x3 + (1 : Int32)).toNatClampNeg) (xs (x3 + (2 : Int32)).toNatClampNeg) v3.2).bind fun v6 =>
  (if v3.1 = v6.1 then
    Lw_1706 N xs k18 x3 v6.2
  else
    some false)
  else none
  else none
  else none
  else none
set_option maxRecDepth 100000 in
set_option maxHeartbeats 4000000 in
theorem t_Lw_621 {g : GG} {d : Nat} {nm : String} (hd0 : 1000 ≤ d) {k18 : Int32 → Nm → Option Bool} (hk18 : ∀ (x3 : Int32) (ν : Nm), k18 x3 ν = some true → Z g d (600000, 7302250) (mL_law nm) 333 333 262170 18 [(0, .ref 1001), (1, .ref 0), (2, .ref 313), (3, .int x3)] [] (zem ν) (Flaw g)) : ∀ (x3 : Int32) (ν : Nm), Lw_621 (gN g) (gX g) k18 x3 ν = some true → Z g d (600000, 7302250) (mL_law nm) 333 333 262170 621 [(0, .ref 1001), (1, .ref 0), (2, .ref 313), (3, .int x3)] [] (zem ν) (Flaw g) := by
  intro x3 ν h
  unfold Lw_621 at h
  refine z_aload_n dL_law_621 1 rfl ?_
  refine z_aload_n dL_law_622 0 rfl ?_
  refine z_iload_n dL_law_623 3 rfl ?_
  refine z_iconst (M := (mL_law nm)) (v := 1) dL_law_624 rfl ?_
  refine z_iadd dL_law_625 ?_
  obtain ⟨hi1, h⟩ := oif h
  refine z_sald dL_law_626 (inb_vp hi1) ?_
  refine z_aload_n dL_law_627 0 rfl ?_
  refine z_iload_n dL_law_628 3 rfl ?_
  refine z_iconst (M := (mL_law nm)) (v := 2) dL_law_629 rfl ?_
  refine z_iadd dL_law_630 ?_
  obtain ⟨hi2, h⟩ := oif h
  refine z_sald dL_law_631 (inb_vp hi2) ?_
  obtain ⟨v3, he3, h⟩ := obind h
  refine yG_Vi (M := (mL_law nm)) (Y := mX11_shifts) (d2 := d - 1) (As := [.int (gX g (x3 + (1 : Int32)).toNatClampNeg), .int (gX g (x3 + (2 : Int32)).toNatClampNeg)]) (st := []) dL_law_632 mlRL_72 cv_X11_shifts zk_0 (ct_Fm_shifts (dle (Nat.le_of_ble_eq_true rfl) hd0) he3) (dps (Nat.le_of_ble_eq_true rfl) hd0) rfl rfl (Nat.le_of_ble_eq_true rfl) ?_
  refine z_aload_n dL_law_635 2 rfl ?_
  refine z_aload_n dL_law_636 0 rfl ?_
  refine z_iload_n dL_law_637 3 rfl ?_
  refine z_iconst (M := (mL_law nm)) (v := 1) dL_law_638 rfl ?_
  refine z_iadd dL_law_639 ?_
  obtain ⟨hi4, h⟩ := oif h
  refine z_sald dL_law_640 (inb_vp hi4) ?_
  refine z_aload_n dL_law_641 0 rfl ?_
  refine z_iload_n dL_law_642 3 rfl ?_
  refine z_iconst (M := (mL_law nm)) (v := 2) dL_law_643 rfl ?_
  refine z_iadd dL_law_644 ?_
  obtain ⟨hi5, h⟩ := oif h
  refine z_sald dL_law_645 (inb_vp hi5) ?_
  obtain ⟨v6, he6, h⟩ := obind h
  refine yG_Vi (M := (mL_law nm)) (Y := mX12_shifts) (d2 := d - 1) (As := [.int (gX g (x3 + (1 : Int32)).toNatClampNeg), .int (gX g (x3 + (2 : Int32)).toNatClampNeg)]) (st := [.int v3.1]) dL_law_646 mlRL_75 cv_X12_shifts zk_313 (ct_Md_shifts (dle (Nat.le_of_ble_eq_true rfl) hd0) he6) (dps (Nat.le_of_ble_eq_true rfl) hd0) rfl rfl (Nat.le_of_ble_eq_true rfl) ?_
  refine z_icmp_eq 1706 dL_law_649 rfl (fun hc7 => ?_) (fun hc7 => ?_)
  · replace h := oT hc7 h
    exact t_Lw_1706 hd0 hk18 x3 v6.2 h
  · replace h := oF hc7 h
    refine z_iconst (M := (mL_law nm)) (v := 0) dL_law_652 rfl ?_
    cases h
def Lw_654 (N : Nat) (xs : Nat → Int32) (k18 : Int32 → Nm → Option Bool) (x3 : Int32) (ν : Nm) : Option Bool :=
  (Fm_undo ν).bind fun v1 =>
  (Md_undo v1.2).bind fun v2 =>
  (if v1.1 = v2.1 then
    Lw_1706 N xs k18 x3 v2.2
  else
    some false)
set_option maxRecDepth 100000 in
set_option maxHeartbeats 4000000 in
theorem t_Lw_654 {g : GG} {d : Nat} {nm : String} (hd0 : 1000 ≤ d) {k18 : Int32 → Nm → Option Bool} (hk18 : ∀ (x3 : Int32) (ν : Nm), k18 x3 ν = some true → Z g d (600000, 7302250) (mL_law nm) 333 333 262170 18 [(0, .ref 1001), (1, .ref 0), (2, .ref 313), (3, .int x3)] [] (zem ν) (Flaw g)) : ∀ (x3 : Int32) (ν : Nm), Lw_654 (gN g) (gX g) k18 x3 ν = some true → Z g d (600000, 7302250) (mL_law nm) 333 333 262170 654 [(0, .ref 1001), (1, .ref 0), (2, .ref 313), (3, .int x3)] [] (zem ν) (Flaw g) := by
  intro x3 ν h
  unfold Lw_654 at h
  refine z_aload_n dL_law_654 1 rfl ?_
  obtain ⟨v1, he1, h⟩ := obind h
  refine yG_Vi (M := (mL_law nm)) (Y := mX11_undo) (d2 := d - 1) (As := []) (st := []) dL_law_655 mlRL_76 cv_X11_undo zk_0 (ct_Fm_undo (dle (Nat.le_of_ble_eq_true rfl) hd0) he1) (dps (Nat.le_of_ble_eq_true rfl) hd0) rfl rfl (Nat.le_of_ble_eq_true rfl) ?_
  refine z_aload_n dL_law_658 2 rfl ?_
  obtain ⟨v2, he2, h⟩ := obind h
  refine yG_Vi (M := (mL_law nm)) (Y := mX12_undo) (d2 := d - 1) (As := []) (st := [.int v1.1]) dL_law_659 mlRL_79 cv_X12_undo zk_313 (ct_Md_undo (dle (Nat.le_of_ble_eq_true rfl) hd0) he2) (dps (Nat.le_of_ble_eq_true rfl) hd0) rfl rfl (Nat.le_of_ble_eq_true rfl) ?_
  refine z_icmp_eq 1706 dL_law_662 rfl (fun hc3 => ?_) (fun hc3 => ?_)
  · replace h := oT hc3 h
    exact t_Lw_1706 hd0 hk18 x3 v2.2 h
  · replace h := oF hc3 h
    refine z_iconst (M := (mL_law nm)) (v := 0) dL_law_665 rfl ?_
    cases h
def Lw_667 (N : Nat) (xs : Nat → Int32) (k18 : Int32 → Nm → Option Bool) (x3 : Int32) (ν : Nm) : Option Bool :=
  if inb (x3 + (1 : Int32)) N then
  if inb (x3 + (2 : Int32)) N then
  (Fm_of ν (xs (x3 + (1 : Int32)).toNatClampNeg) (xs (x3 + (2 : Int32)).toNatClampNeg)).bind fun v3 =>
  if inb (x3 + (1 : Int32)) N then
  if inb (x3 + (2 : Int32)) N then
  (Md_of ν (xs (x3 + (1 : Int32)).toNatClampNeg) (xs (x3 + (2 : Int32)).toNatClampNeg)).bind fun v6 =>
  (if v3 = v6 then
    Lw_1706 N xs k18 x3 ν
  else
    some false)
  else none
  else none
  else none
  else none
set_option maxRecDepth 100000 in
set_option maxHeartbeats 4000000 in
theorem t_Lw_667 {g : GG} {d : Nat} {nm : String} (hd0 : 1000 ≤ d) {k18 : Int32 → Nm → Option Bool} (hk18 : ∀ (x3 : Int32) (ν : Nm), k18 x3 ν = some true → Z g d (600000, 7302250) (mL_law nm) 333 333 262170 18 [(0, .ref 1001), (1, .ref 0), (2, .ref 313), (3, .int x3)] [] (zem ν) (Flaw g)) : ∀ (x3 : Int32) (ν : Nm), Lw_667 (gN g) (gX g) k18 x3 ν = some true → Z g d (600000, 7302250) (mL_law nm) 333 333 262170 667 [(0, .ref 1001), (1, .ref 0), (2, .ref 313), (3, .int x3)] [] (zem ν) (Flaw g) := by
  intro x3 ν h
  unfold Lw_667 at h
  refine z_aload_n dL_law_667 1 rfl ?_
  refine z_aload_n dL_law_668 0 rfl ?_
  refine z_iload_n dL_law_669 3 rfl ?_
  refine z_iconst (M := (mL_law nm)) (v := 1) dL_law_670 rfl ?_
  refine z_iadd dL_law_671 ?_
  obtain ⟨hi1, h⟩ := oif h
  refine z_sald dL_law_672 (inb_vp hi1) ?_
  refine z_aload_n dL_law_673 0 rfl ?_
  refine z_iload_n dL_law_674 3 rfl ?_
  refine z_iconst (M := (mL_law nm)) (v := 2) dL_law_675 rfl ?_
  refine z_iadd dL_law_676 ?_
  obtain ⟨hi2, h⟩ := oif h
  refine z_sald dL_law_677 (inb_vp hi2) ?_
  obtain ⟨v3, he3, h⟩ := obind h
  refine yG_Vi (M := (mL_law nm)) (Y := mX11_of) (d2 := d - 1) (As := [.int (gX g (x3 + (1 : Int32)).toNatClampNeg), .int (gX g (x3 + (2 : Int32)).toNatClampNeg)]) (st := []) dL_law_678 mlRL_80 cv_X11_of zk_0 (ct_Fm_of (dle (Nat.le_of_ble_eq_true rfl) hd0) he3) (dps (Nat.le_of_ble_eq_true rfl) hd0) rfl rfl (Nat.le_of_ble_eq_true rfl) ?_
  refine z_aload_n dL_law_681 2 rfl ?_
  refine z_aload_n dL_law_682 0 rfl ?_
  refine z_iload_n dL_law_683 3 rfl ?_
  refine z_iconst (M := (mL_law nm)) (v := 1) dL_law_684 rfl ?_
  refine z_iadd dL_law_685 ?_
  obtain ⟨hi4, h⟩ := oif h
  refine z_sald dL_law_686 (inb_vp hi4) ?_
  refine z_aload_n dL_law_687 0 rfl ?_
  refine z_iload_n dL_law_688 3 rfl ?_
  refine z_iconst (M := (mL_law nm)) (v := 2) dL_law_689 rfl ?_
  refine z_iadd dL_law_690 ?_
  obtain ⟨hi5, h⟩ := oif h
  refine z_sald dL_law_691 (inb_vp hi5) ?_
  obtain ⟨v6, he6, h⟩ := obind h
  refine yG_Vi (M := (mL_law nm)) (Y := mX12_of) (d2 := d - 1) (As := [.int (gX g (x3 + (1 : Int32)).toNatClampNeg), .int (gX g (x3 + (2 : Int32)).toNatClampNeg)]) (st := [.int v3]) dL_law_692 mlRL_83 cv_X12_of zk_313 (ct_Md_of (dle (Nat.le_of_ble_eq_true rfl) hd0) he6) (dps (Nat.le_of_ble_eq_true rfl) hd0) rfl rfl (Nat.le_of_ble_eq_true rfl) ?_
  refine z_icmp_eq 1706 dL_law_695 rfl (fun hc7 => ?_) (fun hc7 => ?_)
  · replace h := oT hc7 h
    exact t_Lw_1706 hd0 hk18 x3 ν h
  · replace h := oF hc7 h
    refine z_iconst (M := (mL_law nm)) (v := 0) dL_law_698 rfl ?_
    cases h
def Lw_767 (N : Nat) (xs : Nat → Int32) (k18 : Int32 → Nm → Option Bool) (x3 : Int32) (s0 : Int32) (s1 : Int32) (s2 : Int32) (s4 : Int32) (ν : Nm) : Option Bool :=
  (Md_law s2 s1 s0 ν).bind fun v1 =>
  (if s4 = v1.1 then
    Lw_1706 N xs k18 x3 v1.2
  else
    some false)
set_option maxRecDepth 100000 in
set_option maxHeartbeats 4000000 in
theorem t_Lw_767 {g : GG} {d : Nat} {nm : String} (hd0 : 1000 ≤ d) {k18 : Int32 → Nm → Option Bool} (hk18 : ∀ (x3 : Int32) (ν : Nm), k18 x3 ν = some true → Z g d (600000, 7302250) (mL_law nm) 333 333 262170 18 [(0, .ref 1001), (1, .ref 0), (2, .ref 313), (3, .int x3)] [] (zem ν) (Flaw g)) : ∀ (x3 : Int32) (s0 : Int32) (s1 : Int32) (s2 : Int32) (s4 : Int32) (ν : Nm), Lw_767 (gN g) (gX g) k18 x3 s0 s1 s2 s4 ν = some true → Z g d (600000, 7302250) (mL_law nm) 333 333 262170 767 [(0, .ref 1001), (1, .ref 0), (2, .ref 313), (3, .int x3)] [.int s0, .int s1, .int s2, .ref 313, .int s4] (zem ν) (Flaw g) := by
  intro x3 s0 s1 s2 s4 ν h
  unfold Lw_767 at h
  obtain ⟨v1, he1, h⟩ := obind h
  refine yG_Vi (M := (mL_law nm)) (Y := mX12_law) (d2 := d - 1) (As := [.int s2, .int s1, .int s0]) (st := [.int s4]) dL_law_767 mlRL_88 cv_X12_law zk_313 (ct_Md_law (dle (Nat.le_of_ble_eq_true rfl) hd0) he1) (dps (Nat.le_of_ble_eq_true rfl) hd0) rfl rfl (Nat.le_of_ble_eq_true rfl) ?_
  refine z_icmp_eq 1706 dL_law_770 rfl (fun hc2 => ?_) (fun hc2 => ?_)
  · replace h := oT hc2 h
    exact t_Lw_1706 hd0 hk18 x3 v1.2 h
  · replace h := oF hc2 h
    refine z_iconst (M := (mL_law nm)) (v := 0) dL_law_773 rfl ?_
    cases h
def Lw_754 (N : Nat) (xs : Nat → Int32) (k18 : Int32 → Nm → Option Bool) (x3 : Int32) (s0 : Int32) (s1 : Int32) (s3 : Int32) (ν : Nm) : Option Bool :=
  if inb (x3 + (3 : Int32)) N then
  (if (xs (x3 + (3 : Int32)).toNatClampNeg) = 0 then
    Lw_767 N xs k18 x3 (0 : Int32) s0 s1 s3 ν
  else
    Lw_767 N xs k18 x3 (1 : Int32) s0 s1 s3 ν)
  else none
set_option maxRecDepth 100000 in
set_option maxHeartbeats 4000000 in
theorem t_Lw_754 {g : GG} {d : Nat} {nm : String} (hd0 : 1000 ≤ d) {k18 : Int32 → Nm → Option Bool} (hk18 : ∀ (x3 : Int32) (ν : Nm), k18 x3 ν = some true → Z g d (600000, 7302250) (mL_law nm) 333 333 262170 18 [(0, .ref 1001), (1, .ref 0), (2, .ref 313), (3, .int x3)] [] (zem ν) (Flaw g)) : ∀ (x3 : Int32) (s0 : Int32) (s1 : Int32) (s3 : Int32) (ν : Nm), Lw_754 (gN g) (gX g) k18 x3 s0 s1 s3 ν = some true → Z g d (600000, 7302250) (mL_law nm) 333 333 262170 754 [(0, .ref 1001), (1, .ref 0), (2, .ref 313), (3, .int x3)] [.int s0, .int s1, .ref 313, .int s3] (zem ν) (Flaw g) := by
  intro x3 s0 s1 s3 ν h
  unfold Lw_754 at h
  refine z_aload_n dL_law_754 0 rfl ?_
  refine z_iload_n dL_law_755 3 rfl ?_
  refine z_iconst (M := (mL_law nm)) (v := 3) dL_law_756 rfl ?_
  refine z_iadd dL_law_757 ?_
  obtain ⟨hi1, h⟩ := oif h
  refine z_sald dL_law_758 (inb_vp hi1) ?_
  refine z_if_eq 766 dL_law_759 rfl (fun hc2 => ?_) (fun hc2 => ?_)
  · replace h := oT hc2 h
    refine z_iconst (M := (mL_law nm)) (v := 0) dL_law_766 rfl ?_
    exact t_Lw_767 hd0 hk18 x3 (0 : Int32) s0 s1 s3 ν h
  · replace h := oF hc2 h
    refine z_iconst (M := (mL_law nm)) (v := 1) dL_law_762 rfl ?_
    refine z_goto 767 dL_law_763 rfl ?_
    exact t_Lw_767 hd0 hk18 x3 (1 : Int32) s0 s1 s3 ν h
def Lw_732 (N : Nat) (xs : Nat → Int32) (k18 : Int32 → Nm → Option Bool) (x3 : Int32) (s0 : Int32) (s1 : Int32) (s2 : Int32) (ν : Nm) : Option Bool :=
  (Fm_law s2 s1 s0 ν).bind fun v1 =>
  if inb (x3 + (1 : Int32)) N then
  if inb (x3 + (2 : Int32)) N then
  (if (xs (x3 + (2 : Int32)).toNatClampNeg) = 0 then
    Lw_754 N xs k18 x3 (0 : Int32) (xs (x3 + (1 : Int32)).toNatClampNeg) v1.1 v1.2
  else
    Lw_754 N xs k18 x3 (1 : Int32) (xs (x3 + (1 : Int32)).toNatClampNeg) v1.1 v1.2)
  else none
  else none
set_option maxRecDepth 100000 in
set_option maxHeartbeats 4000000 in
theorem t_Lw_732 {g : GG} {d : Nat} {nm : String} (hd0 : 1000 ≤ d) {k18 : Int32 → Nm → Option Bool} (hk18 : ∀ (x3 : Int32) (ν : Nm), k18 x3 ν = some true → Z g d (600000, 7302250) (mL_law nm) 333 333 262170 18 [(0, .ref 1001), (1, .ref 0), (2, .ref 313), (3, .int x3)] [] (zem ν) (Flaw g)) : ∀ (x3 : Int32) (s0 : Int32) (s1 : Int32) (s2 : Int32) (ν : Nm), Lw_732 (gN g) (gX g) k18 x3 s0 s1 s2 ν = some true → Z g d (600000, 7302250) (mL_law nm) 333 333 262170 732 [(0, .ref 1001), (1, .ref 0), (2, .ref 313), (3, .int x3)] [.int s0, .int s1, .int s2, .ref 0] (zem ν) (Flaw g) := by
  intro x3 s0 s1 s2 ν h
  unfold Lw_732 at h
  obtain ⟨v1, he1, h⟩ := obind h
  refine yG_Vi (M := (mL_law nm)) (Y := mX11_law) (d2 := d - 1) (As := [.int s2, .int s1, .int s0]) (st := []) dL_law_732 mlRL_84 cv_X11_law zk_0 (ct_Fm_law (dle (Nat.le_of_ble_eq_true rfl) hd0) he1) (dps (Nat.le_of_ble_eq_true rfl) hd0) rfl rfl (Nat.le_of_ble_eq_true rfl) ?_
  refine z_aload_n dL_law_735 2 rfl ?_
  refine z_aload_n dL_law_736 0 rfl ?_
  refine z_iload_n dL_law_737 3 rfl ?_
  refine z_iconst (M := (mL_law nm)) (v := 1) dL_law_738 rfl ?_
  refine z_iadd dL_law_739 ?_
  obtain ⟨hi2, h⟩ := oif h
  refine z_sald dL_law_740 (inb_vp hi2) ?_
  refine z_aload_n dL_law_741 0 rfl ?_
  refine z_iload_n dL_law_742 3 rfl ?_
  refine z_iconst (M := (mL_law nm)) (v := 2) dL_law_743 rfl ?_
  refine z_iadd dL_law_744 ?_
  obtain ⟨hi3, h⟩ := oif h
  refine z_sald dL_law_745 (inb_vp hi3) ?_
  refine z_if_eq 753 dL_law_746 rfl (fun hc4 => ?_) (fun hc4 => ?_)
  · replace h := oT hc4 h
    refine z_iconst (M := (mL_law nm)) (v := 0) dL_law_753 rfl ?_
    exact t_Lw_754 hd0 hk18 x3 (0 : Int32) (gX g (x3 + (1 : Int32)).toNatClampNeg) v1.1 v1.2 h
  · replace h := oF hc4 h
    refine z_iconst (M := (mL_law nm)) (v := 1) dL_law_749 rfl ?_
    refine z_goto 754 dL_law_750 rfl ?_
    exact t_Lw_754 hd0 hk18 x3 (1 : Int32) (gX g (x3 + (1 : Int32)).toNatClampNeg) v1.1 v1.2 h
def Lw_719 (N : Nat) (xs : Nat → Int32) (k18 : Int32 → Nm → Option Bool) (x3 : Int32) (s0 : Int32) (s1 : Int32) (ν : Nm) : Option Bool :=
  if inb (x3 + (3 : Int32)) N then
  (if (xs (x3 + (3 : Int32)).toNatClampNeg) = 0 then
    Lw_732 N xs k18 x3 (0 : Int32) s0 s1 ν
  else
    Lw_732 N xs k18 x3 (1 : Int32) s0 s1 ν)
  else none
set_option maxRecDepth 100000 in
set_option maxHeartbeats 4000000 in
theorem t_Lw_719 {g : GG} {d : Nat} {nm : String} (hd0 : 1000 ≤ d) {k18 : Int32 → Nm → Option Bool} (hk18 : ∀ (x3 : Int32) (ν : Nm), k18 x3 ν = some true → Z g d (600000, 7302250) (mL_law nm) 333 333 262170 18 [(0, .ref 1001), (1, .ref 0), (2, .ref 313), (3, .int x3)] [] (zem ν) (Flaw g)) : ∀ (x3 : Int32) (s0 : Int32) (s1 : Int32) (ν : Nm), Lw_719 (gN g) (gX g) k18 x3 s0 s1 ν = some true → Z g d (600000, 7302250) (mL_law nm) 333 333 262170 719 [(0, .ref 1001), (1, .ref 0), (2, .ref 313), (3, .int x3)] [.int s0, .int s1, .ref 0] (zem ν) (Flaw g) := by
  intro x3 s0 s1 ν h
  unfold Lw_719 at h
  refine z_aload_n dL_law_719 0 rfl ?_
  refine z_iload_n dL_law_720 3 rfl ?_
  refine z_iconst (M := (mL_law nm)) (v := 3) dL_law_721 rfl ?_
  refine z_iadd dL_law_722 ?_
  obtain ⟨hi1, h⟩ := oif h
  refine z_sald dL_law_723 (inb_vp hi1) ?_
  refine z_if_eq 731 dL_law_724 rfl (fun hc2 => ?_) (fun hc2 => ?_)
  · replace h := oT hc2 h
    refine z_iconst (M := (mL_law nm)) (v := 0) dL_law_731 rfl ?_
    exact t_Lw_732 hd0 hk18 x3 (0 : Int32) s0 s1 ν h
  · replace h := oF hc2 h
    refine z_iconst (M := (mL_law nm)) (v := 1) dL_law_727 rfl ?_
    refine z_goto 732 dL_law_728 rfl ?_
    exact t_Lw_732 hd0 hk18 x3 (1 : Int32) s0 s1 ν h
def Lw_700 (N : Nat) (xs : Nat → Int32) (k18 : Int32 → Nm → Option Bool) (x3 : Int32) (ν : Nm) : Option Bool :=
  if inb (x3 + (1 : Int32)) N then
  if inb (x3 + (2 : Int32)) N then
  (if (xs (x3 + (2 : Int32)).toNatClampNeg) = 0 then
    Lw_719 N xs k18 x3 (0 : Int32) (xs (x3 + (1 : Int32)).toNatClampNeg) ν
  else
    Lw_719 N xs k18 x3 (1 : Int32) (xs (x3 + (1 : Int32)).toNatClampNeg) ν)
  else none
  else none
set_option maxRecDepth 100000 in
set_option maxHeartbeats 4000000 in
theorem t_Lw_700 {g : GG} {d : Nat} {nm : String} (hd0 : 1000 ≤ d) {k18 : Int32 → Nm → Option Bool} (hk18 : ∀ (x3 : Int32) (ν : Nm), k18 x3 ν = some true → Z g d (600000, 7302250) (mL_law nm) 333 333 262170 18 [(0, .ref 1001), (1, .ref 0), (2, .ref 313), (3, .int x3)] [] (zem ν) (Flaw g)) : ∀ (x3 : Int32) (ν : Nm), Lw_700 (gN g) (gX g) k18 x3 ν = some true → Z g d (600000, 7302250) (mL_law nm) 333 333 262170 700 [(0, .ref 1001), (1, .ref 0), (2, .ref 313), (3, .int x3)] [] (zem ν) (Flaw g) := by
  intro x3 ν h
  unfold Lw_700 at h
  refine z_aload_n dL_law_700 1 rfl ?_
  refine z_aload_n dL_law_701 0 rfl ?_
  refine z_iload_n dL_law_702 3 rfl ?_
  refine z_iconst (M := (mL_law nm)) (v := 1) dL_law_703 rfl ?_
  refine z_iadd dL_law_704 ?_
  obtain ⟨hi1, h⟩ := oif h
  refine z_sald dL_law_705 (inb_vp hi1) ?_
  refine z_aload_n dL_law_706 0 rfl ?_
  refine z_iload_n dL_law_707 3 rfl ?_
  refine z_iconst (M := (mL_law nm)) (v := 2) dL_law_708 rfl ?_
  refine z_iadd dL_law_709 ?_
  obtain ⟨hi2, h⟩ := oif h
  refine z_sald dL_law_710 (inb_vp hi2) ?_
  refine z_if_eq 718 dL_law_711 rfl (fun hc3 => ?_) (fun hc3 => ?_)
  · replace h := oT hc3 h
    refine z_iconst (M := (mL_law nm)) (v := 0) dL_law_718 rfl ?_
    exact t_Lw_719 hd0 hk18 x3 (0 : Int32) (gX g (x3 + (1 : Int32)).toNatClampNeg) ν h
  · replace h := oF hc3 h
    refine z_iconst (M := (mL_law nm)) (v := 1) dL_law_714 rfl ?_
    refine z_goto 719 dL_law_715 rfl ?_
    exact t_Lw_719 hd0 hk18 x3 (1 : Int32) (gX g (x3 + (1 : Int32)).toNatClampNeg) ν h
def Lw_775 (N : Nat) (xs : Nat → Int32) (k18 : Int32 → Nm → Option Bool) (x3 : Int32) (ν : Nm) : Option Bool :=
  if inb (x3 + (1 : Int32)) N then
  (Fm_is ν (xs (x3 + (1 : Int32)).toNatClampNeg)).bind fun v2 =>
  if inb (x3 + (1 : Int32)) N then
  (Md_is ν (xs (x3 + (1 : Int32)).toNatClampNeg)).bind fun v4 =>
  (if v2 = v4 then
    Lw_1706 N xs k18 x3 ν
  else
    some false)
  else none
  else none
set_option maxRecDepth 100000 in
set_option maxHeartbeats 4000000 in
theorem t_Lw_775 {g : GG} {d : Nat} {nm : String} (hd0 : 1000 ≤ d) {k18 : Int32 → Nm → Option Bool} (hk18 : ∀ (x3 : Int32) (ν : Nm), k18 x3 ν = some true → Z g d (600000, 7302250) (mL_law nm) 333 333 262170 18 [(0, .ref 1001), (1, .ref 0), (2, .ref 313), (3, .int x3)] [] (zem ν) (Flaw g)) : ∀ (x3 : Int32) (ν : Nm), Lw_775 (gN g) (gX g) k18 x3 ν = some true → Z g d (600000, 7302250) (mL_law nm) 333 333 262170 775 [(0, .ref 1001), (1, .ref 0), (2, .ref 313), (3, .int x3)] [] (zem ν) (Flaw g) := by
  intro x3 ν h
  unfold Lw_775 at h
  refine z_aload_n dL_law_775 1 rfl ?_
  refine z_aload_n dL_law_776 0 rfl ?_
  refine z_iload_n dL_law_777 3 rfl ?_
  refine z_iconst (M := (mL_law nm)) (v := 1) dL_law_778 rfl ?_
  refine z_iadd dL_law_779 ?_
  obtain ⟨hi1, h⟩ := oif h
  refine z_sald dL_law_780 (inb_vp hi1) ?_
  obtain ⟨v2, he2, h⟩ := obind h
  refine yG_Vi (M := (mL_law nm)) (Y := mX11_is) (d2 := d - 1) (As := [.int (gX g (x3 + (1 : Int32)).toNatClampNeg)]) (st := []) dL_law_781 mlRL_89 cv_X11_is zk_0 (ct_Fm_is (dle (Nat.le_of_ble_eq_true rfl) hd0) he2) (dps (Nat.le_of_ble_eq_true rfl) hd0) rfl rfl (Nat.le_of_ble_eq_true rfl) ?_
  refine z_aload_n dL_law_784 2 rfl ?_
  refine z_aload_n dL_law_785 0 rfl ?_
  refine z_iload_n dL_law_786 3 rfl ?_
  refine z_iconst (M := (mL_law nm)) (v := 1) dL_law_787 rfl ?_
  refine z_iadd dL_law_788 ?_
  obtain ⟨hi3, h⟩ := oif h
  refine z_sald dL_law_789 (inb_vp hi3) ?_
  obtain ⟨v4, he4, h⟩ := obind h
  refine yG_Vi (M := (mL_law nm)) (Y := mX12_is) (d2 := d - 1) (As := [.int (gX g (x3 + (1 : Int32)).toNatClampNeg)]) (st := [.int v2]) dL_law_790 mlRL_92 cv_X12_is zk_313 (ct_Md_is (dle (Nat.le_of_ble_eq_true rfl) hd0) he4) (dps (Nat.le_of_ble_eq_true rfl) hd0) rfl rfl (Nat.le_of_ble_eq_true rfl) ?_
  refine z_icmp_eq 1706 dL_law_793 rfl (fun hc5 => ?_) (fun hc5 => ?_)
  · replace h := oT hc5 h
    exact t_Lw_1706 hd0 hk18 x3 ν h
  · replace h := oF hc5 h
    refine z_iconst (M := (mL_law nm)) (v := 0) dL_law_796 rfl ?_
    cases h
def Lw_798 (N : Nat) (xs : Nat → Int32) (k18 : Int32 → Nm → Option Bool) (x3 : Int32) (ν : Nm) : Option Bool :=
  if inb (x3 + (1 : Int32)) N then
  if inb (x3 + (2 : Int32)) N then
  (Fm_book ν (xs (x3 + (1 : Int32)).toNatClampNeg) (xs (x3 + (2 : Int32)).toNatClampNeg)).bind fun v3 =>
  if inb (x3 + (1 : Int32)) N then
  if inb (x3 + (2 : Int32)) N then
  (Md_book ν (xs (x3 + (1 : Int32)).toNatClampNeg) (xs (x3 + (2 : Int32)).toNatClampNeg)).bind fun v6 =>
  (if v3 = v6 then
    Lw_1706 N xs k18 x3 ν
  else
    some false)
  else none
  else none
  else none
  else none
set_option maxRecDepth 100000 in
set_option maxHeartbeats 4000000 in
theorem t_Lw_798 {g : GG} {d : Nat} {nm : String} (hd0 : 1000 ≤ d) {k18 : Int32 → Nm → Option Bool} (hk18 : ∀ (x3 : Int32) (ν : Nm), k18 x3 ν = some true → Z g d (600000, 7302250) (mL_law nm) 333 333 262170 18 [(0, .ref 1001), (1, .ref 0), (2, .ref 313), (3, .int x3)] [] (zem ν) (Flaw g)) : ∀ (x3 : Int32) (ν : Nm), Lw_798 (gN g) (gX g) k18 x3 ν = some true → Z g d (600000, 7302250) (mL_law nm) 333 333 262170 798 [(0, .ref 1001), (1, .ref 0), (2, .ref 313), (3, .int x3)] [] (zem ν) (Flaw g) := by
  intro x3 ν h
  unfold Lw_798 at h
  refine z_aload_n dL_law_798 1 rfl ?_
  refine z_aload_n dL_law_799 0 rfl ?_
  refine z_iload_n dL_law_800 3 rfl ?_
  refine z_iconst (M := (mL_law nm)) (v := 1) dL_law_801 rfl ?_
  refine z_iadd dL_law_802 ?_
  obtain ⟨hi1, h⟩ := oif h
  refine z_sald dL_law_803 (inb_vp hi1) ?_
  refine z_aload_n dL_law_804 0 rfl ?_
  refine z_iload_n dL_law_805 3 rfl ?_
  refine z_iconst (M := (mL_law nm)) (v := 2) dL_law_806 rfl ?_
  refine z_iadd dL_law_807 ?_
  obtain ⟨hi2, h⟩ := oif h
  refine z_sald dL_law_808 (inb_vp hi2) ?_
  obtain ⟨v3, he3, h⟩ := obind h
  refine yG_Vi (M := (mL_law nm)) (Y := mX11_book) (d2 := d - 1) (As := [.int (gX g (x3 + (1 : Int32)).toNatClampNeg), .int (gX g (x3 + (2 : Int32)).toNatClampNeg)]) (st := []) dL_law_809 mlRL_93 cv_X11_book zk_0 (ct_Fm_book (dle (Nat.le_of_ble_eq_true rfl) hd0) he3) (dps (Nat.le_of_ble_eq_true rfl) hd0) rfl rfl (Nat.le_of_ble_eq_true rfl) ?_
  refine z_aload_n dL_law_812 2 rfl ?_
  refine z_aload_n dL_law_813 0 rfl ?_
  refine z_iload_n dL_law_814 3 rfl ?_
  refine z_iconst (M := (mL_law nm)) (v := 1) dL_law_815 rfl ?_
  refine z_iadd dL_law_816 ?_
  obtain ⟨hi4, h⟩ := oif h
  refine z_sald dL_law_817 (inb_vp hi4) ?_
  refine z_aload_n dL_law_818 0 rfl ?_
  refine z_iload_n dL_law_819 3 rfl ?_
  refine z_iconst (M := (mL_law nm)) (v := 2) dL_law_820 rfl ?_
  refine z_iadd dL_law_821 ?_
  obtain ⟨hi5, h⟩ := oif h
  refine z_sald dL_law_822 (inb_vp hi5) ?_
  obtain ⟨v6, he6, h⟩ := obind h
  refine yG_Vi (M := (mL_law nm)) (Y := mX12_book) (d2 := d - 1) (As := [.int (gX g (x3 + (1 : Int32)).toNatClampNeg), .int (gX g (x3 + (2 : Int32)).toNatClampNeg)]) (st := [.int v3]) dL_law_823 mlRL_96 cv_X12_book zk_313 (ct_Md_book (dle (Nat.le_of_ble_eq_true rfl) hd0) he6) (dps (Nat.le_of_ble_eq_true rfl) hd0) rfl rfl (Nat.le_of_ble_eq_true rfl) ?_
  refine z_icmp_eq 1706 dL_law_826 rfl (fun hc7 => ?_) (fun hc7 => ?_)
  · replace h := oT hc7 h
    exact t_Lw_1706 hd0 hk18 x3 ν h
  · replace h := oF hc7 h
    refine z_iconst (M := (mL_law nm)) (v := 0) dL_law_829 rfl ?_
    cases h
def Lw_831 (N : Nat) (xs : Nat → Int32) (k18 : Int32 → Nm → Option Bool) (x3 : Int32) (ν : Nm) : Option Bool :=
  if inb (x3 + (1 : Int32)) N then
  if inb (x3 + (2 : Int32)) N then
  (Fm_foretold ν (xs (x3 + (1 : Int32)).toNatClampNeg) (xs (x3 + (2 : Int32)).toNatClampNeg)).bind fun v3 =>
  if inb (x3 + (1 : Int32)) N then
  if inb (x3 + (2 : Int32)) N then
  (Md_foretold (xs (x3 + (1 : Int32)).toNatClampNeg) (xs (x3 + (2 : Int32)).toNatClampNeg) ν).bind fun v6 =>
  (if v3 = v6.1 then
    Lw_1706 N xs k18 x3 v6.2
  else
    some false)
  else none
  else none
  else none
  else none
set_option maxRecDepth 100000 in
set_option maxHeartbeats 4000000 in
theorem t_Lw_831 {g : GG} {d : Nat} {nm : String} (hd0 : 1000 ≤ d) {k18 : Int32 → Nm → Option Bool} (hk18 : ∀ (x3 : Int32) (ν : Nm), k18 x3 ν = some true → Z g d (600000, 7302250) (mL_law nm) 333 333 262170 18 [(0, .ref 1001), (1, .ref 0), (2, .ref 313), (3, .int x3)] [] (zem ν) (Flaw g)) : ∀ (x3 : Int32) (ν : Nm), Lw_831 (gN g) (gX g) k18 x3 ν = some true → Z g d (600000, 7302250) (mL_law nm) 333 333 262170 831 [(0, .ref 1001), (1, .ref 0), (2, .ref 313), (3, .int x3)] [] (zem ν) (Flaw g) := by
  intro x3 ν h
  unfold Lw_831 at h
  refine z_aload_n dL_law_831 1 rfl ?_
  refine z_aload_n dL_law_832 0 rfl ?_
  refine z_iload_n dL_law_833 3 rfl ?_
  refine z_iconst (M := (mL_law nm)) (v := 1) dL_law_834 rfl ?_
  refine z_iadd dL_law_835 ?_
  obtain ⟨hi1, h⟩ := oif h
  refine z_sald dL_law_836 (inb_vp hi1) ?_
  refine z_aload_n dL_law_837 0 rfl ?_
  refine z_iload_n dL_law_838 3 rfl ?_
  refine z_iconst (M := (mL_law nm)) (v := 2) dL_law_839 rfl ?_
  refine z_iadd dL_law_840 ?_
  obtain ⟨hi2, h⟩ := oif h
  refine z_sald dL_law_841 (inb_vp hi2) ?_
  obtain ⟨v3, he3, h⟩ := obind h
  refine yG_Vi (M := (mL_law nm)) (Y := mX11_foretold) (d2 := d - 1) (As := [.int (gX g (x3 + (1 : Int32)).toNatClampNeg), .int (gX g (x3 + (2 : Int32)).toNatClampNeg)]) (st := []) dL_law_842 mlRL_97 cv_X11_foretold zk_0 (ct_Fm_foretold (dle (Nat.le_of_ble_eq_true rfl) hd0) he3) (dps (Nat.le_of_ble_eq_true rfl) hd0) rfl rfl (Nat.le_of_ble_eq_true rfl) ?_
  refine z_aload_n dL_law_845 2 rfl ?_
  refine z_aload_n dL_law_846 0 rfl ?_
  refine z_iload_n dL_law_847 3 rfl ?_
  refine z_iconst (M := (mL_law nm)) (v := 1) dL_law_848 rfl ?_
  refine z_iadd dL_law_849 ?_
  obtain ⟨hi4, h⟩ := oif h
  refine z_sald dL_law_850 (inb_vp hi4) ?_
  refine z_aload_n dL_law_851 0 rfl ?_
  refine z_iload_n dL_law_852 3 rfl ?_
  refine z_iconst (M := (mL_law nm)) (v := 2) dL_law_853 rfl ?_
  refine z_iadd dL_law_854 ?_
  obtain ⟨hi5, h⟩ := oif h
  refine z_sald dL_law_855 (inb_vp hi5) ?_
  obtain ⟨v6, he6, h⟩ := obind h
  refine yG_Vi (M := (mL_law nm)) (Y := mX12_foretold) (d2 := d - 1) (As := [.int (gX g (x3 + (1 : Int32)).toNatClampNeg), .int (gX g (x3 + (2 : Int32)).toNatClampNeg)]) (st := [.int v3]) dL_law_856 mlRL_100 cv_X12_foretold zk_313 (ct_Md_foretold (dle (Nat.le_of_ble_eq_true rfl) hd0) he6) (dps (Nat.le_of_ble_eq_true rfl) hd0) rfl rfl (Nat.le_of_ble_eq_true rfl) ?_
  refine z_icmp_eq 1706 dL_law_859 rfl (fun hc7 => ?_) (fun hc7 => ?_)
  · replace h := oT hc7 h
    exact t_Lw_1706 hd0 hk18 x3 v6.2 h
  · replace h := oF hc7 h
    refine z_iconst (M := (mL_law nm)) (v := 0) dL_law_862 rfl ?_
    cases h
def Lw_864 (N : Nat) (xs : Nat → Int32) (k18 : Int32 → Nm → Option Bool) (x3 : Int32) (ν : Nm) : Option Bool :=
  if inb (x3 + (1 : Int32)) N then
  (Fm_out ν (xs (x3 + (1 : Int32)).toNatClampNeg)).bind fun v2 =>
  if inb (x3 + (1 : Int32)) N then
  (Md_out ν (xs (x3 + (1 : Int32)).toNatClampNeg)).bind fun v4 =>
  (if v2 = v4 then
    Lw_1706 N xs k18 x3 ν
  else
    some false)
  else none
  else none
set_option maxRecDepth 100000 in
set_option maxHeartbeats 4000000 in
theorem t_Lw_864 {g : GG} {d : Nat} {nm : String} (hd0 : 1000 ≤ d) {k18 : Int32 → Nm → Option Bool} (hk18 : ∀ (x3 : Int32) (ν : Nm), k18 x3 ν = some true → Z g d (600000, 7302250) (mL_law nm) 333 333 262170 18 [(0, .ref 1001), (1, .ref 0), (2, .ref 313), (3, .int x3)] [] (zem ν) (Flaw g)) : ∀ (x3 : Int32) (ν : Nm), Lw_864 (gN g) (gX g) k18 x3 ν = some true → Z g d (600000, 7302250) (mL_law nm) 333 333 262170 864 [(0, .ref 1001), (1, .ref 0), (2, .ref 313), (3, .int x3)] [] (zem ν) (Flaw g) := by
  intro x3 ν h
  unfold Lw_864 at h
  refine z_aload_n dL_law_864 1 rfl ?_
  refine z_aload_n dL_law_865 0 rfl ?_
  refine z_iload_n dL_law_866 3 rfl ?_
  refine z_iconst (M := (mL_law nm)) (v := 1) dL_law_867 rfl ?_
  refine z_iadd dL_law_868 ?_
  obtain ⟨hi1, h⟩ := oif h
  refine z_sald dL_law_869 (inb_vp hi1) ?_
  obtain ⟨v2, he2, h⟩ := obind h
  refine yG_Vi (M := (mL_law nm)) (Y := mX11_out) (d2 := d - 1) (As := [.int (gX g (x3 + (1 : Int32)).toNatClampNeg)]) (st := []) dL_law_870 mlRL_101 cv_X11_out zk_0 (ct_Fm_out (dle (Nat.le_of_ble_eq_true rfl) hd0) he2) (dps (Nat.le_of_ble_eq_true rfl) hd0) rfl rfl (Nat.le_of_ble_eq_true rfl) ?_
  refine z_aload_n dL_law_873 2 rfl ?_
  refine z_aload_n dL_law_874 0 rfl ?_
  refine z_iload_n dL_law_875 3 rfl ?_
  refine z_iconst (M := (mL_law nm)) (v := 1) dL_law_876 rfl ?_
  refine z_iadd dL_law_877 ?_
  obtain ⟨hi3, h⟩ := oif h
  refine z_sald dL_law_878 (inb_vp hi3) ?_
  obtain ⟨v4, he4, h⟩ := obind h
  refine yG_Vi (M := (mL_law nm)) (Y := mX12_out) (d2 := d - 1) (As := [.int (gX g (x3 + (1 : Int32)).toNatClampNeg)]) (st := [.int v2]) dL_law_879 mlRL_104 cv_X12_out zk_313 (ct_Md_out (dle (Nat.le_of_ble_eq_true rfl) hd0) he4) (dps (Nat.le_of_ble_eq_true rfl) hd0) rfl rfl (Nat.le_of_ble_eq_true rfl) ?_
  refine z_icmp_eq 1706 dL_law_882 rfl (fun hc5 => ?_) (fun hc5 => ?_)
  · replace h := oT hc5 h
    exact t_Lw_1706 hd0 hk18 x3 ν h
  · replace h := oF hc5 h
    refine z_iconst (M := (mL_law nm)) (v := 0) dL_law_885 rfl ?_
    cases h
def Lw_887 (N : Nat) (xs : Nat → Int32) (k18 : Int32 → Nm → Option Bool) (x3 : Int32) (ν : Nm) : Option Bool :=
  if inb (x3 + (1 : Int32)) N then
  if inb (x3 + (2 : Int32)) N then
  (Fm_spans (xs (x3 + (1 : Int32)).toNatClampNeg) (xs (x3 + (2 : Int32)).toNatClampNeg) ν).bind fun v3 =>
  if inb (x3 + (1 : Int32)) N then
  if inb (x3 + (2 : Int32)) N then
  (Md_spans (xs (x3 + (1 : Int32)).toNatClampNeg) (xs (x3 + (2 : Int32)).toNatClampNeg) v3.2).bind fun v6 =>
  (if v3.1 = v6.1 then
    Lw_1706 N xs k18 x3 v6.2
  else
    some false)
  else none
  else none
  else none
  else none
set_option maxRecDepth 100000 in
set_option maxHeartbeats 4000000 in
theorem t_Lw_887 {g : GG} {d : Nat} {nm : String} (hd0 : 1000 ≤ d) {k18 : Int32 → Nm → Option Bool} (hk18 : ∀ (x3 : Int32) (ν : Nm), k18 x3 ν = some true → Z g d (600000, 7302250) (mL_law nm) 333 333 262170 18 [(0, .ref 1001), (1, .ref 0), (2, .ref 313), (3, .int x3)] [] (zem ν) (Flaw g)) : ∀ (x3 : Int32) (ν : Nm), Lw_887 (gN g) (gX g) k18 x3 ν = some true → Z g d (600000, 7302250) (mL_law nm) 333 333 262170 887 [(0, .ref 1001), (1, .ref 0), (2, .ref 313), (3, .int x3)] [] (zem ν) (Flaw g) := by
  intro x3 ν h
  unfold Lw_887 at h
  refine z_aload_n dL_law_887 1 rfl ?_
  refine z_aload_n dL_law_888 0 rfl ?_
  refine z_iload_n dL_law_889 3 rfl ?_
  refine z_iconst (M := (mL_law nm)) (v := 1) dL_law_890 rfl ?_
  refine z_iadd dL_law_891 ?_
  obtain ⟨hi1, h⟩ := oif h
  refine z_sald dL_law_892 (inb_vp hi1) ?_
  refine z_aload_n dL_law_893 0 rfl ?_
  refine z_iload_n dL_law_894 3 rfl ?_
  refine z_iconst (M := (mL_law nm)) (v := 2) dL_law_895 rfl ?_
  refine z_iadd dL_law_896 ?_
  obtain ⟨hi2, h⟩ := oif h
  refine z_sald dL_law_897 (inb_vp hi2) ?_
  obtain ⟨v3, he3, h⟩ := obind h
  refine yG_Vi (M := (mL_law nm)) (Y := mX11_spans) (d2 := d - 1) (As := [.int (gX g (x3 + (1 : Int32)).toNatClampNeg), .int (gX g (x3 + (2 : Int32)).toNatClampNeg)]) (st := []) dL_law_898 mlRL_105 cv_X11_spans zk_0 (ct_Fm_spans (dle (Nat.le_of_ble_eq_true rfl) hd0) he3) (dps (Nat.le_of_ble_eq_true rfl) hd0) rfl rfl (Nat.le_of_ble_eq_true rfl) ?_
  refine z_aload_n dL_law_901 2 rfl ?_
  refine z_aload_n dL_law_902 0 rfl ?_
  refine z_iload_n dL_law_903 3 rfl ?_
  refine z_iconst (M := (mL_law nm)) (v := 1) dL_law_904 rfl ?_
  refine z_iadd dL_law_905 ?_
  obtain ⟨hi4, h⟩ := oif h
  refine z_sald dL_law_906 (inb_vp hi4) ?_
  refine z_aload_n dL_law_907 0 rfl ?_
  refine z_iload_n dL_law_908 3 rfl ?_
  refine z_iconst (M := (mL_law nm)) (v := 2) dL_law_909 rfl ?_
  refine z_iadd dL_law_910 ?_
  obtain ⟨hi5, h⟩ := oif h
  refine z_sald dL_law_911 (inb_vp hi5) ?_
  obtain ⟨v6, he6, h⟩ := obind h
  refine yG_Vi (M := (mL_law nm)) (Y := mX12_spans) (d2 := d - 1) (As := [.int (gX g (x3 + (1 : Int32)).toNatClampNeg), .int (gX g (x3 + (2 : Int32)).toNatClampNeg)]) (st := [.int v3.1]) dL_law_912 mlRL_108 cv_X12_spans zk_313 (ct_Md_spans (dle (Nat.le_of_ble_eq_true rfl) hd0) he6) (dps (Nat.le_of_ble_eq_true rfl) hd0) rfl rfl (Nat.le_of_ble_eq_true rfl) ?_
  refine z_icmp_eq 1706 dL_law_915 rfl (fun hc7 => ?_) (fun hc7 => ?_)
  · replace h := oT hc7 h
    exact t_Lw_1706 hd0 hk18 x3 v6.2 h
  · replace h := oF hc7 h
    refine z_iconst (M := (mL_law nm)) (v := 0) dL_law_918 rfl ?_
    cases h
def Lw_920 (N : Nat) (xs : Nat → Int32) (k18 : Int32 → Nm → Option Bool) (x3 : Int32) (ν : Nm) : Option Bool :=
  if inb (x3 + (1 : Int32)) N then
  if inb (x3 + (2 : Int32)) N then
  (Fm_can (xs (x3 + (1 : Int32)).toNatClampNeg) (xs (x3 + (2 : Int32)).toNatClampNeg) ν).bind fun v3 =>
  if inb (x3 + (1 : Int32)) N then
  if inb (x3 + (2 : Int32)) N then
  (Md_can (xs (x3 + (1 : Int32)).toNatClampNeg) (xs (x3 + (2 : Int32)).toNatClampNeg) v3.2).bind fun v6 =>
  (if (b2i v3.1) = (b2i v6.1) then
    Lw_1706 N xs k18 x3 v6.2
  else
    some false)
  else none
  else none
  else none
  else none
set_option maxRecDepth 100000 in
set_option maxHeartbeats 4000000 in
theorem t_Lw_920 {g : GG} {d : Nat} {nm : String} (hd0 : 1000 ≤ d) {k18 : Int32 → Nm → Option Bool} (hk18 : ∀ (x3 : Int32) (ν : Nm), k18 x3 ν = some true → Z g d (600000, 7302250) (mL_law nm) 333 333 262170 18 [(0, .ref 1001), (1, .ref 0), (2, .ref 313), (3, .int x3)] [] (zem ν) (Flaw g)) : ∀ (x3 : Int32) (ν : Nm), Lw_920 (gN g) (gX g) k18 x3 ν = some true → Z g d (600000, 7302250) (mL_law nm) 333 333 262170 920 [(0, .ref 1001), (1, .ref 0), (2, .ref 313), (3, .int x3)] [] (zem ν) (Flaw g) := by
  intro x3 ν h
  unfold Lw_920 at h
  refine z_aload_n dL_law_920 1 rfl ?_
  refine z_aload_n dL_law_921 0 rfl ?_
  refine z_iload_n dL_law_922 3 rfl ?_
  refine z_iconst (M := (mL_law nm)) (v := 1) dL_law_923 rfl ?_
  refine z_iadd dL_law_924 ?_
  obtain ⟨hi1, h⟩ := oif h
  refine z_sald dL_law_925 (inb_vp hi1) ?_
  refine z_aload_n dL_law_926 0 rfl ?_
  refine z_iload_n dL_law_927 3 rfl ?_
  refine z_iconst (M := (mL_law nm)) (v := 2) dL_law_928 rfl ?_
  refine z_iadd dL_law_929 ?_
  obtain ⟨hi2, h⟩ := oif h
  refine z_sald dL_law_930 (inb_vp hi2) ?_
  obtain ⟨v3, he3, h⟩ := obind h
  refine yG_Vi (M := (mL_law nm)) (Y := mX11_can) (d2 := d - 1) (As := [.int (gX g (x3 + (1 : Int32)).toNatClampNeg), .int (gX g (x3 + (2 : Int32)).toNatClampNeg)]) (st := []) dL_law_931 mlRL_109 cv_X11_can zk_0 (ct_Fm_can (dle (Nat.le_of_ble_eq_true rfl) hd0) he3) (dps (Nat.le_of_ble_eq_true rfl) hd0) rfl rfl (Nat.le_of_ble_eq_true rfl) ?_
  refine z_aload_n dL_law_934 2 rfl ?_
  refine z_aload_n dL_law_935 0 rfl ?_
  refine z_iload_n dL_law_936 3 rfl ?_
  refine z_iconst (M := (mL_law nm)) (v := 1) dL_law_937 rfl ?_
  refine z_iadd dL_law_938 ?_
  obtain ⟨hi4, h⟩ := oif h
  refine z_sald dL_law_939 (inb_vp hi4) ?_
  refine z_aload_n dL_law_940 0 rfl ?_
  refine z_iload_n dL_law_941 3 rfl ?_
  refine z_iconst (M := (mL_law nm)) (v := 2) dL_law_942 rfl ?_
  refine z_iadd dL_law_943 ?_
  obtain ⟨hi5, h⟩ := oif h
  refine z_sald dL_law_944 (inb_vp hi5) ?_
  obtain ⟨v6, he6, h⟩ := obind h
  refine yG_Vi (M := (mL_law nm)) (Y := mX12_can) (d2 := d - 1) (As := [.int (gX g (x3 + (1 : Int32)).toNatClampNeg), .int (gX g (x3 + (2 : Int32)).toNatClampNeg)]) (st := [.int (b2i v3.1)]) dL_law_945 mlRL_113 cv_X12_can zk_313 (ct_Md_can (dle (Nat.le_of_ble_eq_true rfl) hd0) he6) (dps (Nat.le_of_ble_eq_true rfl) hd0) rfl rfl (Nat.le_of_ble_eq_true rfl) ?_
  refine z_icmp_eq 1706 dL_law_948 rfl (fun hc7 => ?_) (fun hc7 => ?_)
  · replace h := oT hc7 h
    exact t_Lw_1706 hd0 hk18 x3 v6.2 h
  · replace h := oF hc7 h
    refine z_iconst (M := (mL_law nm)) (v := 0) dL_law_951 rfl ?_
    cases h
def Lw_953 (N : Nat) (xs : Nat → Int32) (k18 : Int32 → Nm → Option Bool) (x3 : Int32) (ν : Nm) : Option Bool :=
  if inb (x3 + (1 : Int32)) N then
  (Fm_fewest (xs (x3 + (1 : Int32)).toNatClampNeg) ν).bind fun v2 =>
  if inb (x3 + (1 : Int32)) N then
  (Md_fewest (xs (x3 + (1 : Int32)).toNatClampNeg) v2.2).bind fun v4 =>
  (if v2.1 = v4.1 then
    Lw_1706 N xs k18 x3 v4.2
  else
    some false)
  else none
  else none
set_option maxRecDepth 100000 in
set_option maxHeartbeats 4000000 in
theorem t_Lw_953 {g : GG} {d : Nat} {nm : String} (hd0 : 1000 ≤ d) {k18 : Int32 → Nm → Option Bool} (hk18 : ∀ (x3 : Int32) (ν : Nm), k18 x3 ν = some true → Z g d (600000, 7302250) (mL_law nm) 333 333 262170 18 [(0, .ref 1001), (1, .ref 0), (2, .ref 313), (3, .int x3)] [] (zem ν) (Flaw g)) : ∀ (x3 : Int32) (ν : Nm), Lw_953 (gN g) (gX g) k18 x3 ν = some true → Z g d (600000, 7302250) (mL_law nm) 333 333 262170 953 [(0, .ref 1001), (1, .ref 0), (2, .ref 313), (3, .int x3)] [] (zem ν) (Flaw g) := by
  intro x3 ν h
  unfold Lw_953 at h
  refine z_aload_n dL_law_953 1 rfl ?_
  refine z_aload_n dL_law_954 0 rfl ?_
  refine z_iload_n dL_law_955 3 rfl ?_
  refine z_iconst (M := (mL_law nm)) (v := 1) dL_law_956 rfl ?_
  refine z_iadd dL_law_957 ?_
  obtain ⟨hi1, h⟩ := oif h
  refine z_sald dL_law_958 (inb_vp hi1) ?_
  obtain ⟨v2, he2, h⟩ := obind h
  refine yG_Vi (M := (mL_law nm)) (Y := mX11_fewest) (d2 := d - 1) (As := [.int (gX g (x3 + (1 : Int32)).toNatClampNeg)]) (st := []) dL_law_959 mlRL_114 cv_X11_fewest zk_0 (ct_Fm_fewest (dle (Nat.le_of_ble_eq_true rfl) hd0) he2) (dps (Nat.le_of_ble_eq_true rfl) hd0) rfl rfl (Nat.le_of_ble_eq_true rfl) ?_
  refine z_aload_n dL_law_962 2 rfl ?_
  refine z_aload_n dL_law_963 0 rfl ?_
  refine z_iload_n dL_law_964 3 rfl ?_
  refine z_iconst (M := (mL_law nm)) (v := 1) dL_law_965 rfl ?_
  refine z_iadd dL_law_966 ?_
  obtain ⟨hi3, h⟩ := oif h
  refine z_sald dL_law_967 (inb_vp hi3) ?_
  obtain ⟨v4, he4, h⟩ := obind h
  refine yG_Vi (M := (mL_law nm)) (Y := mX12_fewest) (d2 := d - 1) (As := [.int (gX g (x3 + (1 : Int32)).toNatClampNeg)]) (st := [.int v2.1]) dL_law_968 mlRL_117 cv_X12_fewest zk_313 (ct_Md_fewest (dle (Nat.le_of_ble_eq_true rfl) hd0) he4) (dps (Nat.le_of_ble_eq_true rfl) hd0) rfl rfl (Nat.le_of_ble_eq_true rfl) ?_
  refine z_icmp_eq 1706 dL_law_971 rfl (fun hc5 => ?_) (fun hc5 => ?_)
  · replace h := oT hc5 h
    exact t_Lw_1706 hd0 hk18 x3 v4.2 h
  · replace h := oF hc5 h
    refine z_iconst (M := (mL_law nm)) (v := 0) dL_law_974 rfl ?_
    cases h
def Lw_976 (N : Nat) (xs : Nat → Int32) (k18 : Int32 → Nm → Option Bool) (x3 : Int32) (ν : Nm) : Option Bool :=
  if inb (x3 + (1 : Int32)) N then
  (Fm_cheapest (xs (x3 + (1 : Int32)).toNatClampNeg) ν).bind fun v2 =>
  if inb (x3 + (1 : Int32)) N then
  (Md_cheapest (xs (x3 + (1 : Int32)).toNatClampNeg) v2.2).bind fun v4 =>
  (if v2.1 = v4.1 then
    Lw_1706 N xs k18 x3 v4.2
  else
    some false)
  else none
  else none
set_option maxRecDepth 100000 in
set_option maxHeartbeats 4000000 in
theorem t_Lw_976 {g : GG} {d : Nat} {nm : String} (hd0 : 1000 ≤ d) {k18 : Int32 → Nm → Option Bool} (hk18 : ∀ (x3 : Int32) (ν : Nm), k18 x3 ν = some true → Z g d (600000, 7302250) (mL_law nm) 333 333 262170 18 [(0, .ref 1001), (1, .ref 0), (2, .ref 313), (3, .int x3)] [] (zem ν) (Flaw g)) : ∀ (x3 : Int32) (ν : Nm), Lw_976 (gN g) (gX g) k18 x3 ν = some true → Z g d (600000, 7302250) (mL_law nm) 333 333 262170 976 [(0, .ref 1001), (1, .ref 0), (2, .ref 313), (3, .int x3)] [] (zem ν) (Flaw g) := by
  intro x3 ν h
  unfold Lw_976 at h
  refine z_aload_n dL_law_976 1 rfl ?_
  refine z_aload_n dL_law_977 0 rfl ?_
  refine z_iload_n dL_law_978 3 rfl ?_
  refine z_iconst (M := (mL_law nm)) (v := 1) dL_law_979 rfl ?_
  refine z_iadd dL_law_980 ?_
  obtain ⟨hi1, h⟩ := oif h
  refine z_sald dL_law_981 (inb_vp hi1) ?_
  obtain ⟨v2, he2, h⟩ := obind h
  refine yG_Vi (M := (mL_law nm)) (Y := mX11_cheapest) (d2 := d - 1) (As := [.int (gX g (x3 + (1 : Int32)).toNatClampNeg)]) (st := []) dL_law_982 mlRL_118 cv_X11_cheapest zk_0 (ct_Fm_cheapest (dle (Nat.le_of_ble_eq_true rfl) hd0) he2) (dps (Nat.le_of_ble_eq_true rfl) hd0) rfl rfl (Nat.le_of_ble_eq_true rfl) ?_
  refine z_aload_n dL_law_985 2 rfl ?_
  refine z_aload_n dL_law_986 0 rfl ?_
  refine z_iload_n dL_law_987 3 rfl ?_
  refine z_iconst (M := (mL_law nm)) (v := 1) dL_law_988 rfl ?_
  refine z_iadd dL_law_989 ?_
  obtain ⟨hi3, h⟩ := oif h
  refine z_sald dL_law_990 (inb_vp hi3) ?_
  obtain ⟨v4, he4, h⟩ := obind h
  refine yG_Vi (M := (mL_law nm)) (Y := mX12_cheapest) (d2 := d - 1) (As := [.int (gX g (x3 + (1 : Int32)).toNatClampNeg)]) (st := [.int v2.1]) dL_law_991 mlRL_121 cv_X12_cheapest zk_313 (ct_Md_cheapest (dle (Nat.le_of_ble_eq_true rfl) hd0) he4) (dps (Nat.le_of_ble_eq_true rfl) hd0) rfl rfl (Nat.le_of_ble_eq_true rfl) ?_
  refine z_icmp_eq 1706 dL_law_994 rfl (fun hc5 => ?_) (fun hc5 => ?_)
  · replace h := oT hc5 h
    exact t_Lw_1706 hd0 hk18 x3 v4.2 h
  · replace h := oF hc5 h
    refine z_iconst (M := (mL_law nm)) (v := 0) dL_law_997 rfl ?_
    cases h
def Lw_999 (N : Nat) (xs : Nat → Int32) (k18 : Int32 → Nm → Option Bool) (x3 : Int32) (ν : Nm) : Option Bool :=
  if inb (x3 + (1 : Int32)) N then
  if inb (x3 + (2 : Int32)) N then
  if inb (x3 + (3 : Int32)) N then
  (Fm_row (xs (x3 + (1 : Int32)).toNatClampNeg) (xs (x3 + (2 : Int32)).toNatClampNeg) (xs (x3 + (3 : Int32)).toNatClampNeg) ν).bind fun v4 =>
  if inb (x3 + (1 : Int32)) N then
  if inb (x3 + (2 : Int32)) N then
  if inb (x3 + (3 : Int32)) N then
  (Md_row (xs (x3 + (1 : Int32)).toNatClampNeg) (xs (x3 + (2 : Int32)).toNatClampNeg) (xs (x3 + (3 : Int32)).toNatClampNeg) v4.2).bind fun v8 =>
  (if v4.1 = v8.1 then
    Lw_1706 N xs k18 x3 v8.2
  else
    some false)
  else none
  else none
  else none
  else none
  else none
  else none
set_option maxRecDepth 100000 in
set_option maxHeartbeats 4000000 in
theorem t_Lw_999 {g : GG} {d : Nat} {nm : String} (hd0 : 1000 ≤ d) {k18 : Int32 → Nm → Option Bool} (hk18 : ∀ (x3 : Int32) (ν : Nm), k18 x3 ν = some true → Z g d (600000, 7302250) (mL_law nm) 333 333 262170 18 [(0, .ref 1001), (1, .ref 0), (2, .ref 313), (3, .int x3)] [] (zem ν) (Flaw g)) : ∀ (x3 : Int32) (ν : Nm), Lw_999 (gN g) (gX g) k18 x3 ν = some true → Z g d (600000, 7302250) (mL_law nm) 333 333 262170 999 [(0, .ref 1001), (1, .ref 0), (2, .ref 313), (3, .int x3)] [] (zem ν) (Flaw g) := by
  intro x3 ν h
  unfold Lw_999 at h
  refine z_aload_n dL_law_999 1 rfl ?_
  refine z_aload_n dL_law_1000 0 rfl ?_
  refine z_iload_n dL_law_1001 3 rfl ?_
  refine z_iconst (M := (mL_law nm)) (v := 1) dL_law_1002 rfl ?_
  refine z_iadd dL_law_1003 ?_
  obtain ⟨hi1, h⟩ := oif h
  refine z_sald dL_law_1004 (inb_vp hi1) ?_
  refine z_aload_n dL_law_1005 0 rfl ?_
  refine z_iload_n dL_law_1006 3 rfl ?_
  refine z_iconst (M := (mL_law nm)) (v := 2) dL_law_1007 rfl ?_
  refine z_iadd dL_law_1008 ?_
  obtain ⟨hi2, h⟩ := oif h
  refine z_sald dL_law_1009 (inb_vp hi2) ?_
  refine z_aload_n dL_law_1010 0 rfl ?_
  refine z_iload_n dL_law_1011 3 rfl ?_
  refine z_iconst (M := (mL_law nm)) (v := 3) dL_law_1012 rfl ?_
  refine z_iadd dL_law_1013 ?_
  obtain ⟨hi3, h⟩ := oif h
  refine z_sald dL_law_1014 (inb_vp hi3) ?_
  obtain ⟨v4, he4, h⟩ := obind h
  refine yG_Vi (M := (mL_law nm)) (Y := mX11_row) (d2 := d - 1) (As := [.int (gX g (x3 + (1 : Int32)).toNatClampNeg), .int (gX g (x3 + (2 : Int32)).toNatClampNeg), .int (gX g (x3 + (3 : Int32)).toNatClampNeg)]) (st := []) dL_law_1015 mlRL_122 cv_X11_row zk_0 (ct_Fm_row (dle (Nat.le_of_ble_eq_true rfl) hd0) he4) (dps (Nat.le_of_ble_eq_true rfl) hd0) rfl rfl (Nat.le_of_ble_eq_true rfl) ?_
  refine z_aload_n dL_law_1018 2 rfl ?_
  refine z_aload_n dL_law_1019 0 rfl ?_
  refine z_iload_n dL_law_1020 3 rfl ?_
  refine z_iconst (M := (mL_law nm)) (v := 1) dL_law_1021 rfl ?_
  refine z_iadd dL_law_1022 ?_
  obtain ⟨hi5, h⟩ := oif h
  refine z_sald dL_law_1023 (inb_vp hi5) ?_
  refine z_aload_n dL_law_1024 0 rfl ?_
  refine z_iload_n dL_law_1025 3 rfl ?_
  refine z_iconst (M := (mL_law nm)) (v := 2) dL_law_1026 rfl ?_
  refine z_iadd dL_law_1027 ?_
  obtain ⟨hi6, h⟩ := oif h
  refine z_sald dL_law_1028 (inb_vp hi6) ?_
  refine z_aload_n dL_law_1029 0 rfl ?_
  refine z_iload_n dL_law_1030 3 rfl ?_
  refine z_iconst (M := (mL_law nm)) (v := 3) dL_law_1031 rfl ?_
  refine z_iadd dL_law_1032 ?_
  obtain ⟨hi7, h⟩ := oif h
  refine z_sald dL_law_1033 (inb_vp hi7) ?_
  obtain ⟨v8, he8, h⟩ := obind h
  refine yG_Vi (M := (mL_law nm)) (Y := mX12_row) (d2 := d - 1) (As := [.int (gX g (x3 + (1 : Int32)).toNatClampNeg), .int (gX g (x3 + (2 : Int32)).toNatClampNeg), .int (gX g (x3 + (3 : Int32)).toNatClampNeg)]) (st := [.int v4.1]) dL_law_1034 mlRL_126 cv_X12_row zk_313 (ct_Md_row (dle (Nat.le_of_ble_eq_true rfl) hd0) he8) (dps (Nat.le_of_ble_eq_true rfl) hd0) rfl rfl (Nat.le_of_ble_eq_true rfl) ?_
  refine z_icmp_eq 1706 dL_law_1037 rfl (fun hc9 => ?_) (fun hc9 => ?_)
  · replace h := oT hc9 h
    exact t_Lw_1706 hd0 hk18 x3 v8.2 h
  · replace h := oF hc9 h
    refine z_iconst (M := (mL_law nm)) (v := 0) dL_law_1040 rfl ?_
    cases h
def Lw_1093 (N : Nat) (xs : Nat → Int32) (k18 : Int32 → Nm → Option Bool) (x3 : Int32) (s0 : Int32) (s1 : Int32) (s2 : Int32) (s4 : Int32) (ν : Nm) : Option Bool :=
  (Md_between s2 s1 s0 ν).bind fun v1 =>
  (if s4 = v1.1 then
    Lw_1706 N xs k18 x3 v1.2
  else
    some false)
set_option maxRecDepth 100000 in
set_option maxHeartbeats 4000000 in
theorem t_Lw_1093 {g : GG} {d : Nat} {nm : String} (hd0 : 1000 ≤ d) {k18 : Int32 → Nm → Option Bool} (hk18 : ∀ (x3 : Int32) (ν : Nm), k18 x3 ν = some true → Z g d (600000, 7302250) (mL_law nm) 333 333 262170 18 [(0, .ref 1001), (1, .ref 0), (2, .ref 313), (3, .int x3)] [] (zem ν) (Flaw g)) : ∀ (x3 : Int32) (s0 : Int32) (s1 : Int32) (s2 : Int32) (s4 : Int32) (ν : Nm), Lw_1093 (gN g) (gX g) k18 x3 s0 s1 s2 s4 ν = some true → Z g d (600000, 7302250) (mL_law nm) 333 333 262170 1093 [(0, .ref 1001), (1, .ref 0), (2, .ref 313), (3, .int x3)] [.int s0, .int s1, .int s2, .ref 313, .int s4] (zem ν) (Flaw g) := by
  intro x3 s0 s1 s2 s4 ν h
  unfold Lw_1093 at h
  obtain ⟨v1, he1, h⟩ := obind h
  refine yG_Vi (M := (mL_law nm)) (Y := mX12_between) (d2 := d - 1) (As := [.int s2, .int s1, .int s0]) (st := [.int s4]) dL_law_1093 mlRL_131 cv_X12_between zk_313 (ct_Md_between (dle (Nat.le_of_ble_eq_true rfl) hd0) he1) (dps (Nat.le_of_ble_eq_true rfl) hd0) rfl rfl (Nat.le_of_ble_eq_true rfl) ?_
  refine z_icmp_eq 1706 dL_law_1096 rfl (fun hc2 => ?_) (fun hc2 => ?_)
  · replace h := oT hc2 h
    exact t_Lw_1706 hd0 hk18 x3 v1.2 h
  · replace h := oF hc2 h
    refine z_iconst (M := (mL_law nm)) (v := 0) dL_law_1099 rfl ?_
    cases h
def Lw_1066 (N : Nat) (xs : Nat → Int32) (k18 : Int32 → Nm → Option Bool) (x3 : Int32) (s0 : Int32) (s1 : Int32) (s2 : Int32) (ν : Nm) : Option Bool :=
  (Fm_between s2 s1 s0 ν).bind fun v1 =>
  if inb (x3 + (1 : Int32)) N then
  if inb (x3 + (2 : Int32)) N then
  if inb (x3 + (3 : Int32)) N then
  (if (xs (x3 + (3 : Int32)).toNatClampNeg) = 0 then
    Lw_1093 N xs k18 x3 (0 : Int32) (xs (x3 + (2 : Int32)).toNatClampNeg) (xs (x3 + (1 : Int32)).toNatClampNeg) v1.1 v1.2
  else
    Lw_1093 N xs k18 x3 (1 : Int32) (xs (x3 + (2 : Int32)).toNatClampNeg) (xs (x3 + (1 : Int32)).toNatClampNeg) v1.1 v1.2)
  else none
  else none
  else none
set_option maxRecDepth 100000 in
set_option maxHeartbeats 4000000 in
theorem t_Lw_1066 {g : GG} {d : Nat} {nm : String} (hd0 : 1000 ≤ d) {k18 : Int32 → Nm → Option Bool} (hk18 : ∀ (x3 : Int32) (ν : Nm), k18 x3 ν = some true → Z g d (600000, 7302250) (mL_law nm) 333 333 262170 18 [(0, .ref 1001), (1, .ref 0), (2, .ref 313), (3, .int x3)] [] (zem ν) (Flaw g)) : ∀ (x3 : Int32) (s0 : Int32) (s1 : Int32) (s2 : Int32) (ν : Nm), Lw_1066 (gN g) (gX g) k18 x3 s0 s1 s2 ν = some true → Z g d (600000, 7302250) (mL_law nm) 333 333 262170 1066 [(0, .ref 1001), (1, .ref 0), (2, .ref 313), (3, .int x3)] [.int s0, .int s1, .int s2, .ref 0] (zem ν) (Flaw g) := by
  intro x3 s0 s1 s2 ν h
  unfold Lw_1066 at h
  obtain ⟨v1, he1, h⟩ := obind h
  refine yG_Vi (M := (mL_law nm)) (Y := mX11_between) (d2 := d - 1) (As := [.int s2, .int s1, .int s0]) (st := []) dL_law_1066 mlRL_127 cv_X11_between zk_0 (ct_Fm_between (dle (Nat.le_of_ble_eq_true rfl) hd0) he1) (dps (Nat.le_of_ble_eq_true rfl) hd0) rfl rfl (Nat.le_of_ble_eq_true rfl) ?_
  refine z_aload_n dL_law_1069 2 rfl ?_
  refine z_aload_n dL_law_1070 0 rfl ?_
  refine z_iload_n dL_law_1071 3 rfl ?_
  refine z_iconst (M := (mL_law nm)) (v := 1) dL_law_1072 rfl ?_
  refine z_iadd dL_law_1073 ?_
  obtain ⟨hi2, h⟩ := oif h
  refine z_sald dL_law_1074 (inb_vp hi2) ?_
  refine z_aload_n dL_law_1075 0 rfl ?_
  refine z_iload_n dL_law_1076 3 rfl ?_
  refine z_iconst (M := (mL_law nm)) (v := 2) dL_law_1077 rfl ?_
  refine z_iadd dL_law_1078 ?_
  obtain ⟨hi3, h⟩ := oif h
  refine z_sald dL_law_1079 (inb_vp hi3) ?_
  refine z_aload_n dL_law_1080 0 rfl ?_
  refine z_iload_n dL_law_1081 3 rfl ?_
  refine z_iconst (M := (mL_law nm)) (v := 3) dL_law_1082 rfl ?_
  refine z_iadd dL_law_1083 ?_
  obtain ⟨hi4, h⟩ := oif h
  refine z_sald dL_law_1084 (inb_vp hi4) ?_
  refine z_if_eq 1092 dL_law_1085 rfl (fun hc5 => ?_) (fun hc5 => ?_)
  · replace h := oT hc5 h
    refine z_iconst (M := (mL_law nm)) (v := 0) dL_law_1092 rfl ?_
    exact t_Lw_1093 hd0 hk18 x3 (0 : Int32) (gX g (x3 + (2 : Int32)).toNatClampNeg) (gX g (x3 + (1 : Int32)).toNatClampNeg) v1.1 v1.2 h
  · replace h := oF hc5 h
    refine z_iconst (M := (mL_law nm)) (v := 1) dL_law_1088 rfl ?_
    refine z_goto 1093 dL_law_1089 rfl ?_
    exact t_Lw_1093 hd0 hk18 x3 (1 : Int32) (gX g (x3 + (2 : Int32)).toNatClampNeg) (gX g (x3 + (1 : Int32)).toNatClampNeg) v1.1 v1.2 h
def Lw_1042 (N : Nat) (xs : Nat → Int32) (k18 : Int32 → Nm → Option Bool) (x3 : Int32) (ν : Nm) : Option Bool :=
  if inb (x3 + (1 : Int32)) N then
  if inb (x3 + (2 : Int32)) N then
  if inb (x3 + (3 : Int32)) N then
  (if (xs (x3 + (3 : Int32)).toNatClampNeg) = 0 then
    Lw_1066 N xs k18 x3 (0 : Int32) (xs (x3 + (2 : Int32)).toNatClampNeg) (xs (x3 + (1 : Int32)).toNatClampNeg) ν
  else
    Lw_1066 N xs k18 x3 (1 : Int32) (xs (x3 + (2 : Int32)).toNatClampNeg) (xs (x3 + (1 : Int32)).toNatClampNeg) ν)
  else none
  else none
  else none
set_option maxRecDepth 100000 in
set_option maxHeartbeats 4000000 in
theorem t_Lw_1042 {g : GG} {d : Nat} {nm : String} (hd0 : 1000 ≤ d) {k18 : Int32 → Nm → Option Bool} (hk18 : ∀ (x3 : Int32) (ν : Nm), k18 x3 ν = some true → Z g d (600000, 7302250) (mL_law nm) 333 333 262170 18 [(0, .ref 1001), (1, .ref 0), (2, .ref 313), (3, .int x3)] [] (zem ν) (Flaw g)) : ∀ (x3 : Int32) (ν : Nm), Lw_1042 (gN g) (gX g) k18 x3 ν = some true → Z g d (600000, 7302250) (mL_law nm) 333 333 262170 1042 [(0, .ref 1001), (1, .ref 0), (2, .ref 313), (3, .int x3)] [] (zem ν) (Flaw g) := by
  intro x3 ν h
  unfold Lw_1042 at h
  refine z_aload_n dL_law_1042 1 rfl ?_
  refine z_aload_n dL_law_1043 0 rfl ?_
  refine z_iload_n dL_law_1044 3 rfl ?_
  refine z_iconst (M := (mL_law nm)) (v := 1) dL_law_1045 rfl ?_
  refine z_iadd dL_law_1046 ?_
  obtain ⟨hi1, h⟩ := oif h
  refine z_sald dL_law_1047 (inb_vp hi1) ?_
  refine z_aload_n dL_law_1048 0 rfl ?_
  refine z_iload_n dL_law_1049 3 rfl ?_
  refine z_iconst (M := (mL_law nm)) (v := 2) dL_law_1050 rfl ?_
  refine z_iadd dL_law_1051 ?_
  obtain ⟨hi2, h⟩ := oif h
  refine z_sald dL_law_1052 (inb_vp hi2) ?_
  refine z_aload_n dL_law_1053 0 rfl ?_
  refine z_iload_n dL_law_1054 3 rfl ?_
  refine z_iconst (M := (mL_law nm)) (v := 3) dL_law_1055 rfl ?_
  refine z_iadd dL_law_1056 ?_
  obtain ⟨hi3, h⟩ := oif h
  refine z_sald dL_law_1057 (inb_vp hi3) ?_
  refine z_if_eq 1065 dL_law_1058 rfl (fun hc4 => ?_) (fun hc4 => ?_)
  · replace h := oT hc4 h
    refine z_iconst (M := (mL_law nm)) (v := 0) dL_law_1065 rfl ?_
    exact t_Lw_1066 hd0 hk18 x3 (0 : Int32) (gX g (x3 + (2 : Int32)).toNatClampNeg) (gX g (x3 + (1 : Int32)).toNatClampNeg) ν h
  · replace h := oF hc4 h
    refine z_iconst (M := (mL_law nm)) (v := 1) dL_law_1061 rfl ?_
    refine z_goto 1066 dL_law_1062 rfl ?_
    exact t_Lw_1066 hd0 hk18 x3 (1 : Int32) (gX g (x3 + (2 : Int32)).toNatClampNeg) (gX g (x3 + (1 : Int32)).toNatClampNeg) ν h
def Lw_1101 (N : Nat) (xs : Nat → Int32) (k18 : Int32 → Nm → Option Bool) (x3 : Int32) (ν : Nm) : Option Bool :=
  if inb (x3 + (1 : Int32)) N then
  if inb (x3 + (2 : Int32)) N then
  (Fm_nearest (xs (x3 + (1 : Int32)).toNatClampNeg) (xs (x3 + (2 : Int32)).toNatClampNeg) ν).bind fun v3 =>
  if inb (x3 + (1 : Int32)) N then
  if inb (x3 + (2 : Int32)) N then
  (Md_nearest (xs (x3 + (1 : Int32)).toNatClampNeg) (xs (x3 + (2 : Int32)).toNatClampNeg) v3.2).bind fun v6 =>
  (if v3.1 = v6.1 then
    Lw_1706 N xs k18 x3 v6.2
  else
    some false)
  else none
  else none
  else none
  else none
set_option maxRecDepth 100000 in
set_option maxHeartbeats 4000000 in
theorem t_Lw_1101 {g : GG} {d : Nat} {nm : String} (hd0 : 1000 ≤ d) {k18 : Int32 → Nm → Option Bool} (hk18 : ∀ (x3 : Int32) (ν : Nm), k18 x3 ν = some true → Z g d (600000, 7302250) (mL_law nm) 333 333 262170 18 [(0, .ref 1001), (1, .ref 0), (2, .ref 313), (3, .int x3)] [] (zem ν) (Flaw g)) : ∀ (x3 : Int32) (ν : Nm), Lw_1101 (gN g) (gX g) k18 x3 ν = some true → Z g d (600000, 7302250) (mL_law nm) 333 333 262170 1101 [(0, .ref 1001), (1, .ref 0), (2, .ref 313), (3, .int x3)] [] (zem ν) (Flaw g) := by
  intro x3 ν h
  unfold Lw_1101 at h
  refine z_aload_n dL_law_1101 1 rfl ?_
  refine z_aload_n dL_law_1102 0 rfl ?_
  refine z_iload_n dL_law_1103 3 rfl ?_
  refine z_iconst (M := (mL_law nm)) (v := 1) dL_law_1104 rfl ?_
  refine z_iadd dL_law_1105 ?_
  obtain ⟨hi1, h⟩ := oif h
  refine z_sald dL_law_1106 (inb_vp hi1) ?_
  refine z_aload_n dL_law_1107 0 rfl ?_
  refine z_iload_n dL_law_1108 3 rfl ?_
  refine z_iconst (M := (mL_law nm)) (v := 2) dL_law_1109 rfl ?_
  refine z_iadd dL_law_1110 ?_
  obtain ⟨hi2, h⟩ := oif h
  refine z_sald dL_law_1111 (inb_vp hi2) ?_
  obtain ⟨v3, he3, h⟩ := obind h
  refine yG_Vi (M := (mL_law nm)) (Y := mX11_nearest) (d2 := d - 1) (As := [.int (gX g (x3 + (1 : Int32)).toNatClampNeg), .int (gX g (x3 + (2 : Int32)).toNatClampNeg)]) (st := []) dL_law_1112 mlRL_132 cv_X11_nearest zk_0 (ct_Fm_nearest (dle (Nat.le_of_ble_eq_true rfl) hd0) he3) (dps (Nat.le_of_ble_eq_true rfl) hd0) rfl rfl (Nat.le_of_ble_eq_true rfl) ?_
  refine z_aload_n dL_law_1115 2 rfl ?_
  refine z_aload_n dL_law_1116 0 rfl ?_
  refine z_iload_n dL_law_1117 3 rfl ?_
  refine z_iconst (M := (mL_law nm)) (v := 1) dL_law_1118 rfl ?_
  refine z_iadd dL_law_1119 ?_
  obtain ⟨hi4, h⟩ := oif h
  refine z_sald dL_law_1120 (inb_vp hi4) ?_
  refine z_aload_n dL_law_1121 0 rfl ?_
  refine z_iload_n dL_law_1122 3 rfl ?_
  refine z_iconst (M := (mL_law nm)) (v := 2) dL_law_1123 rfl ?_
  refine z_iadd dL_law_1124 ?_
  obtain ⟨hi5, h⟩ := oif h
  refine z_sald dL_law_1125 (inb_vp hi5) ?_
  obtain ⟨v6, he6, h⟩ := obind h
  refine yG_Vi (M := (mL_law nm)) (Y := mX12_nearest) (d2 := d - 1) (As := [.int (gX g (x3 + (1 : Int32)).toNatClampNeg), .int (gX g (x3 + (2 : Int32)).toNatClampNeg)]) (st := [.int v3.1]) dL_law_1126 mlRL_135 cv_X12_nearest zk_313 (ct_Md_nearest (dle (Nat.le_of_ble_eq_true rfl) hd0) he6) (dps (Nat.le_of_ble_eq_true rfl) hd0) rfl rfl (Nat.le_of_ble_eq_true rfl) ?_
  refine z_icmp_eq 1706 dL_law_1129 rfl (fun hc7 => ?_) (fun hc7 => ?_)
  · replace h := oT hc7 h
    exact t_Lw_1706 hd0 hk18 x3 v6.2 h
  · replace h := oF hc7 h
    refine z_iconst (M := (mL_law nm)) (v := 0) dL_law_1132 rfl ?_
    cases h
def Lw_1134 (N : Nat) (xs : Nat → Int32) (k18 : Int32 → Nm → Option Bool) (x3 : Int32) (ν : Nm) : Option Bool :=
  if inb (x3 + (1 : Int32)) N then
  (Fm_want (xs (x3 + (1 : Int32)).toNatClampNeg) ν).bind fun v2 =>
  if inb (x3 + (1 : Int32)) N then
  (Md_want (xs (x3 + (1 : Int32)).toNatClampNeg) v2.2).bind fun v4 =>
  (if v2.1 = v4.1 then
    Lw_1706 N xs k18 x3 v4.2
  else
    some false)
  else none
  else none
set_option maxRecDepth 100000 in
set_option maxHeartbeats 4000000 in
theorem t_Lw_1134 {g : GG} {d : Nat} {nm : String} (hd0 : 1000 ≤ d) {k18 : Int32 → Nm → Option Bool} (hk18 : ∀ (x3 : Int32) (ν : Nm), k18 x3 ν = some true → Z g d (600000, 7302250) (mL_law nm) 333 333 262170 18 [(0, .ref 1001), (1, .ref 0), (2, .ref 313), (3, .int x3)] [] (zem ν) (Flaw g)) : ∀ (x3 : Int32) (ν : Nm), Lw_1134 (gN g) (gX g) k18 x3 ν = some true → Z g d (600000, 7302250) (mL_law nm) 333 333 262170 1134 [(0, .ref 1001), (1, .ref 0), (2, .ref 313), (3, .int x3)] [] (zem ν) (Flaw g) := by
  intro x3 ν h
  unfold Lw_1134 at h
  refine z_aload_n dL_law_1134 1 rfl ?_
  refine z_aload_n dL_law_1135 0 rfl ?_
  refine z_iload_n dL_law_1136 3 rfl ?_
  refine z_iconst (M := (mL_law nm)) (v := 1) dL_law_1137 rfl ?_
  refine z_iadd dL_law_1138 ?_
  obtain ⟨hi1, h⟩ := oif h
  refine z_sald dL_law_1139 (inb_vp hi1) ?_
  obtain ⟨v2, he2, h⟩ := obind h
  refine yG_Vi (M := (mL_law nm)) (Y := mX11_want) (d2 := d - 1) (As := [.int (gX g (x3 + (1 : Int32)).toNatClampNeg)]) (st := []) dL_law_1140 mlRL_136 cv_X11_want zk_0 (ct_Fm_want (dle (Nat.le_of_ble_eq_true rfl) hd0) he2) (dps (Nat.le_of_ble_eq_true rfl) hd0) rfl rfl (Nat.le_of_ble_eq_true rfl) ?_
  refine z_aload_n dL_law_1143 2 rfl ?_
  refine z_aload_n dL_law_1144 0 rfl ?_
  refine z_iload_n dL_law_1145 3 rfl ?_
  refine z_iconst (M := (mL_law nm)) (v := 1) dL_law_1146 rfl ?_
  refine z_iadd dL_law_1147 ?_
  obtain ⟨hi3, h⟩ := oif h
  refine z_sald dL_law_1148 (inb_vp hi3) ?_
  obtain ⟨v4, he4, h⟩ := obind h
  refine yG_Vi (M := (mL_law nm)) (Y := mX12_want) (d2 := d - 1) (As := [.int (gX g (x3 + (1 : Int32)).toNatClampNeg)]) (st := [.int v2.1]) dL_law_1149 mlRL_139 cv_X12_want zk_313 (ct_Md_want (dle (Nat.le_of_ble_eq_true rfl) hd0) he4) (dps (Nat.le_of_ble_eq_true rfl) hd0) rfl rfl (Nat.le_of_ble_eq_true rfl) ?_
  refine z_icmp_eq 1706 dL_law_1152 rfl (fun hc5 => ?_) (fun hc5 => ?_)
  · replace h := oT hc5 h
    exact t_Lw_1706 hd0 hk18 x3 v4.2 h
  · replace h := oF hc5 h
    refine z_iconst (M := (mL_law nm)) (v := 0) dL_law_1155 rfl ?_
    cases h
def Lw_1188 (N : Nat) (xs : Nat → Int32) (k18 : Int32 → Nm → Option Bool) (x3 : Int32) (s0 : Int32) (s2 : Int32) (ν : Nm) : Option Bool :=
  (Md_bundle s0 ν).bind fun v1 =>
  (if s2 = v1.1 then
    Lw_1706 N xs k18 x3 v1.2
  else
    some false)
set_option maxRecDepth 100000 in
set_option maxHeartbeats 4000000 in
theorem t_Lw_1188 {g : GG} {d : Nat} {nm : String} (hd0 : 1000 ≤ d) {k18 : Int32 → Nm → Option Bool} (hk18 : ∀ (x3 : Int32) (ν : Nm), k18 x3 ν = some true → Z g d (600000, 7302250) (mL_law nm) 333 333 262170 18 [(0, .ref 1001), (1, .ref 0), (2, .ref 313), (3, .int x3)] [] (zem ν) (Flaw g)) : ∀ (x3 : Int32) (s0 : Int32) (s2 : Int32) (ν : Nm), Lw_1188 (gN g) (gX g) k18 x3 s0 s2 ν = some true → Z g d (600000, 7302250) (mL_law nm) 333 333 262170 1188 [(0, .ref 1001), (1, .ref 0), (2, .ref 313), (3, .int x3)] [.int s0, .ref 313, .int s2] (zem ν) (Flaw g) := by
  intro x3 s0 s2 ν h
  unfold Lw_1188 at h
  obtain ⟨v1, he1, h⟩ := obind h
  refine yG_Vi (M := (mL_law nm)) (Y := mX12_bundle) (d2 := d - 1) (As := [.int s0]) (st := [.int s2]) dL_law_1188 mlRL_144 cv_X12_bundle zk_313 (ct_Md_bundle (dle (Nat.le_of_ble_eq_true rfl) hd0) he1) (dps (Nat.le_of_ble_eq_true rfl) hd0) rfl rfl (Nat.le_of_ble_eq_true rfl) ?_
  refine z_icmp_eq 1706 dL_law_1191 rfl (fun hc2 => ?_) (fun hc2 => ?_)
  · replace h := oT hc2 h
    exact t_Lw_1706 hd0 hk18 x3 v1.2 h
  · replace h := oF hc2 h
    refine z_iconst (M := (mL_law nm)) (v := 0) dL_law_1194 rfl ?_
    cases h
def Lw_1171 (N : Nat) (xs : Nat → Int32) (k18 : Int32 → Nm → Option Bool) (x3 : Int32) (s0 : Int32) (ν : Nm) : Option Bool :=
  (Fm_bundle s0 ν).bind fun v1 =>
  if inb (x3 + (1 : Int32)) N then
  (if (xs (x3 + (1 : Int32)).toNatClampNeg) = 0 then
    Lw_1188 N xs k18 x3 (0 : Int32) v1.1 v1.2
  else
    Lw_1188 N xs k18 x3 (1 : Int32) v1.1 v1.2)
  else none
set_option maxRecDepth 100000 in
set_option maxHeartbeats 4000000 in
theorem t_Lw_1171 {g : GG} {d : Nat} {nm : String} (hd0 : 1000 ≤ d) {k18 : Int32 → Nm → Option Bool} (hk18 : ∀ (x3 : Int32) (ν : Nm), k18 x3 ν = some true → Z g d (600000, 7302250) (mL_law nm) 333 333 262170 18 [(0, .ref 1001), (1, .ref 0), (2, .ref 313), (3, .int x3)] [] (zem ν) (Flaw g)) : ∀ (x3 : Int32) (s0 : Int32) (ν : Nm), Lw_1171 (gN g) (gX g) k18 x3 s0 ν = some true → Z g d (600000, 7302250) (mL_law nm) 333 333 262170 1171 [(0, .ref 1001), (1, .ref 0), (2, .ref 313), (3, .int x3)] [.int s0, .ref 0] (zem ν) (Flaw g) := by
  intro x3 s0 ν h
  unfold Lw_1171 at h
  obtain ⟨v1, he1, h⟩ := obind h
  refine yG_Vi (M := (mL_law nm)) (Y := mX11_bundle) (d2 := d - 1) (As := [.int s0]) (st := []) dL_law_1171 mlRL_140 cv_X11_bundle zk_0 (ct_Fm_bundle (dle (Nat.le_of_ble_eq_true rfl) hd0) he1) (dps (Nat.le_of_ble_eq_true rfl) hd0) rfl rfl (Nat.le_of_ble_eq_true rfl) ?_
  refine z_aload_n dL_law_1174 2 rfl ?_
  refine z_aload_n dL_law_1175 0 rfl ?_
  refine z_iload_n dL_law_1176 3 rfl ?_
  refine z_iconst (M := (mL_law nm)) (v := 1) dL_law_1177 rfl ?_
  refine z_iadd dL_law_1178 ?_
  obtain ⟨hi2, h⟩ := oif h
  refine z_sald dL_law_1179 (inb_vp hi2) ?_
  refine z_if_eq 1187 dL_law_1180 rfl (fun hc3 => ?_) (fun hc3 => ?_)
  · replace h := oT hc3 h
    refine z_iconst (M := (mL_law nm)) (v := 0) dL_law_1187 rfl ?_
    exact t_Lw_1188 hd0 hk18 x3 (0 : Int32) v1.1 v1.2 h
  · replace h := oF hc3 h
    refine z_iconst (M := (mL_law nm)) (v := 1) dL_law_1183 rfl ?_
    refine z_goto 1188 dL_law_1184 rfl ?_
    exact t_Lw_1188 hd0 hk18 x3 (1 : Int32) v1.1 v1.2 h
def Lw_1157 (N : Nat) (xs : Nat → Int32) (k18 : Int32 → Nm → Option Bool) (x3 : Int32) (ν : Nm) : Option Bool :=
  if inb (x3 + (1 : Int32)) N then
  (if (xs (x3 + (1 : Int32)).toNatClampNeg) = 0 then
    Lw_1171 N xs k18 x3 (0 : Int32) ν
  else
    Lw_1171 N xs k18 x3 (1 : Int32) ν)
  else none
set_option maxRecDepth 100000 in
set_option maxHeartbeats 4000000 in
theorem t_Lw_1157 {g : GG} {d : Nat} {nm : String} (hd0 : 1000 ≤ d) {k18 : Int32 → Nm → Option Bool} (hk18 : ∀ (x3 : Int32) (ν : Nm), k18 x3 ν = some true → Z g d (600000, 7302250) (mL_law nm) 333 333 262170 18 [(0, .ref 1001), (1, .ref 0), (2, .ref 313), (3, .int x3)] [] (zem ν) (Flaw g)) : ∀ (x3 : Int32) (ν : Nm), Lw_1157 (gN g) (gX g) k18 x3 ν = some true → Z g d (600000, 7302250) (mL_law nm) 333 333 262170 1157 [(0, .ref 1001), (1, .ref 0), (2, .ref 313), (3, .int x3)] [] (zem ν) (Flaw g) := by
  intro x3 ν h
  unfold Lw_1157 at h
  refine z_aload_n dL_law_1157 1 rfl ?_
  refine z_aload_n dL_law_1158 0 rfl ?_
  refine z_iload_n dL_law_1159 3 rfl ?_
  refine z_iconst (M := (mL_law nm)) (v := 1) dL_law_1160 rfl ?_
  refine z_iadd dL_law_1161 ?_
  obtain ⟨hi1, h⟩ := oif h
  refine z_sald dL_law_1162 (inb_vp hi1) ?_
  refine z_if_eq 1170 dL_law_1163 rfl (fun hc2 => ?_) (fun hc2 => ?_)
  · replace h := oT hc2 h
    refine z_iconst (M := (mL_law nm)) (v := 0) dL_law_1170 rfl ?_
    exact t_Lw_1171 hd0 hk18 x3 (0 : Int32) ν h
  · replace h := oF hc2 h
    refine z_iconst (M := (mL_law nm)) (v := 1) dL_law_1166 rfl ?_
    refine z_goto 1171 dL_law_1167 rfl ?_
    exact t_Lw_1171 hd0 hk18 x3 (1 : Int32) ν h
def Lw_1196 (N : Nat) (xs : Nat → Int32) (k18 : Int32 → Nm → Option Bool) (x3 : Int32) (ν : Nm) : Option Bool :=
  if inb (x3 + (1 : Int32)) N then
  (Fm_part (xs (x3 + (1 : Int32)).toNatClampNeg) ν).bind fun v2 =>
  if inb (x3 + (1 : Int32)) N then
  (Md_part (xs (x3 + (1 : Int32)).toNatClampNeg) v2.2).bind fun v4 =>
  (if v2.1 = v4.1 then
    Lw_1706 N xs k18 x3 v4.2
  else
    some false)
  else none
  else none
set_option maxRecDepth 100000 in
set_option maxHeartbeats 4000000 in
theorem t_Lw_1196 {g : GG} {d : Nat} {nm : String} (hd0 : 1000 ≤ d) {k18 : Int32 → Nm → Option Bool} (hk18 : ∀ (x3 : Int32) (ν : Nm), k18 x3 ν = some true → Z g d (600000, 7302250) (mL_law nm) 333 333 262170 18 [(0, .ref 1001), (1, .ref 0), (2, .ref 313), (3, .int x3)] [] (zem ν) (Flaw g)) : ∀ (x3 : Int32) (ν : Nm), Lw_1196 (gN g) (gX g) k18 x3 ν = some true → Z g d (600000, 7302250) (mL_law nm) 333 333 262170 1196 [(0, .ref 1001), (1, .ref 0), (2, .ref 313), (3, .int x3)] [] (zem ν) (Flaw g) := by
  intro x3 ν h
  unfold Lw_1196 at h
  refine z_aload_n dL_law_1196 1 rfl ?_
  refine z_aload_n dL_law_1197 0 rfl ?_
  refine z_iload_n dL_law_1198 3 rfl ?_
  refine z_iconst (M := (mL_law nm)) (v := 1) dL_law_1199 rfl ?_
  refine z_iadd dL_law_1200 ?_
  obtain ⟨hi1, h⟩ := oif h
  refine z_sald dL_law_1201 (inb_vp hi1) ?_
  obtain ⟨v2, he2, h⟩ := obind h
  refine yG_Vi (M := (mL_law nm)) (Y := mX11_part) (d2 := d - 1) (As := [.int (gX g (x3 + (1 : Int32)).toNatClampNeg)]) (st := []) dL_law_1202 mlRL_145 cv_X11_part zk_0 (ct_Fm_part (dle (Nat.le_of_ble_eq_true rfl) hd0) he2) (dps (Nat.le_of_ble_eq_true rfl) hd0) rfl rfl (Nat.le_of_ble_eq_true rfl) ?_
  refine z_aload_n dL_law_1205 2 rfl ?_
  refine z_aload_n dL_law_1206 0 rfl ?_
  refine z_iload_n dL_law_1207 3 rfl ?_
  refine z_iconst (M := (mL_law nm)) (v := 1) dL_law_1208 rfl ?_
  refine z_iadd dL_law_1209 ?_
  obtain ⟨hi3, h⟩ := oif h
  refine z_sald dL_law_1210 (inb_vp hi3) ?_
  obtain ⟨v4, he4, h⟩ := obind h
  refine yG_Vi (M := (mL_law nm)) (Y := mX12_part) (d2 := d - 1) (As := [.int (gX g (x3 + (1 : Int32)).toNatClampNeg)]) (st := [.int v2.1]) dL_law_1211 mlRL_148 cv_X12_part zk_313 (ct_Md_part (dle (Nat.le_of_ble_eq_true rfl) hd0) he4) (dps (Nat.le_of_ble_eq_true rfl) hd0) rfl rfl (Nat.le_of_ble_eq_true rfl) ?_
  refine z_icmp_eq 1706 dL_law_1214 rfl (fun hc5 => ?_) (fun hc5 => ?_)
  · replace h := oT hc5 h
    exact t_Lw_1706 hd0 hk18 x3 v4.2 h
  · replace h := oF hc5 h
    refine z_iconst (M := (mL_law nm)) (v := 0) dL_law_1217 rfl ?_
    cases h
def Lw_1219 (N : Nat) (xs : Nat → Int32) (k18 : Int32 → Nm → Option Bool) (x3 : Int32) (ν : Nm) : Option Bool :=
  if inb (x3 + (1 : Int32)) N then
  if inb (x3 + (2 : Int32)) N then
  (Fm_crews (xs (x3 + (1 : Int32)).toNatClampNeg) (xs (x3 + (2 : Int32)).toNatClampNeg) ν).bind fun v3 =>
  if inb (x3 + (1 : Int32)) N then
  if inb (x3 + (2 : Int32)) N then
  (Md_crews (xs (x3 + (1 : Int32)).toNatClampNeg) (xs (x3 + (2 : Int32)).toNatClampNeg) v3.2).bind fun v6 =>
  (if v3.1 = v6.1 then
    Lw_1706 N xs k18 x3 v6.2
  else
    some false)
  else none
  else none
  else none
  else none
set_option maxRecDepth 100000 in
set_option maxHeartbeats 4000000 in
theorem t_Lw_1219 {g : GG} {d : Nat} {nm : String} (hd0 : 1000 ≤ d) {k18 : Int32 → Nm → Option Bool} (hk18 : ∀ (x3 : Int32) (ν : Nm), k18 x3 ν = some true → Z g d (600000, 7302250) (mL_law nm) 333 333 262170 18 [(0, .ref 1001), (1, .ref 0), (2, .ref 313), (3, .int x3)] [] (zem ν) (Flaw g)) : ∀ (x3 : Int32) (ν : Nm), Lw_1219 (gN g) (gX g) k18 x3 ν = some true → Z g d (600000, 7302250) (mL_law nm) 333 333 262170 1219 [(0, .ref 1001), (1, .ref 0), (2, .ref 313), (3, .int x3)] [] (zem ν) (Flaw g) := by
  intro x3 ν h
  unfold Lw_1219 at h
  refine z_aload_n dL_law_1219 1 rfl ?_
  refine z_aload_n dL_law_1220 0 rfl ?_
  refine z_iload_n dL_law_1221 3 rfl ?_
  refine z_iconst (M := (mL_law nm)) (v := 1) dL_law_1222 rfl ?_
  refine z_iadd dL_law_1223 ?_
  obtain ⟨hi1, h⟩ := oif h
  refine z_sald dL_law_1224 (inb_vp hi1) ?_
  refine z_aload_n dL_law_1225 0 rfl ?_
  refine z_iload_n dL_law_1226 3 rfl ?_
  refine z_iconst (M := (mL_law nm)) (v := 2) dL_law_1227 rfl ?_
  refine z_iadd dL_law_1228 ?_
  obtain ⟨hi2, h⟩ := oif h
  refine z_sald dL_law_1229 (inb_vp hi2) ?_
  obtain ⟨v3, he3, h⟩ := obind h
  refine yG_Vi (M := (mL_law nm)) (Y := mX11_crews) (d2 := d - 1) (As := [.int (gX g (x3 + (1 : Int32)).toNatClampNeg), .int (gX g (x3 + (2 : Int32)).toNatClampNeg)]) (st := []) dL_law_1230 mlRL_149 cv_X11_crews zk_0 (ct_Fm_crews (dle (Nat.le_of_ble_eq_true rfl) hd0) he3) (dps (Nat.le_of_ble_eq_true rfl) hd0) rfl rfl (Nat.le_of_ble_eq_true rfl) ?_
  refine z_aload_n dL_law_1233 2 rfl ?_
  refine z_aload_n dL_law_1234 0 rfl ?_
  refine z_iload_n dL_law_1235 3 rfl ?_
  refine z_iconst (M := (mL_law nm)) (v := 1) dL_law_1236 rfl ?_
  refine z_iadd dL_law_1237 ?_
  obtain ⟨hi4, h⟩ := oif h
  refine z_sald dL_law_1238 (inb_vp hi4) ?_
  refine z_aload_n dL_law_1239 0 rfl ?_
  refine z_iload_n dL_law_1240 3 rfl ?_
  refine z_iconst (M := (mL_law nm)) (v := 2) dL_law_1241 rfl ?_
  refine z_iadd dL_law_1242 ?_
  obtain ⟨hi5, h⟩ := oif h
  refine z_sald dL_law_1243 (inb_vp hi5) ?_
  obtain ⟨v6, he6, h⟩ := obind h
  refine yG_Vi (M := (mL_law nm)) (Y := mX12_crews) (d2 := d - 1) (As := [.int (gX g (x3 + (1 : Int32)).toNatClampNeg), .int (gX g (x3 + (2 : Int32)).toNatClampNeg)]) (st := [.int v3.1]) dL_law_1244 mlRL_152 cv_X12_crews zk_313 (ct_Md_crews (dle (Nat.le_of_ble_eq_true rfl) hd0) he6) (dps (Nat.le_of_ble_eq_true rfl) hd0) rfl rfl (Nat.le_of_ble_eq_true rfl) ?_
  refine z_icmp_eq 1706 dL_law_1247 rfl (fun hc7 => ?_) (fun hc7 => ?_)
  · replace h := oT hc7 h
    exact t_Lw_1706 hd0 hk18 x3 v6.2 h
  · replace h := oF hc7 h
    refine z_iconst (M := (mL_law nm)) (v := 0) dL_law_1250 rfl ?_
    cases h
def Lw_1252 (N : Nat) (xs : Nat → Int32) (k18 : Int32 → Nm → Option Bool) (x3 : Int32) (ν : Nm) : Option Bool :=
  if inb (x3 + (1 : Int32)) N then
  if inb (x3 + (2 : Int32)) N then
  (Fm_take (xs (x3 + (1 : Int32)).toNatClampNeg) (xs (x3 + (2 : Int32)).toNatClampNeg) ν).bind fun v3 =>
  if inb (x3 + (1 : Int32)) N then
  if inb (x3 + (2 : Int32)) N then
  (Md_take (xs (x3 + (1 : Int32)).toNatClampNeg) (xs (x3 + (2 : Int32)).toNatClampNeg) v3.2).bind fun v6 =>
  (if v3.1 = v6.1 then
    Lw_1706 N xs k18 x3 v6.2
  else
    some false)
  else none
  else none
  else none
  else none
set_option maxRecDepth 100000 in
set_option maxHeartbeats 4000000 in
theorem t_Lw_1252 {g : GG} {d : Nat} {nm : String} (hd0 : 1000 ≤ d) {k18 : Int32 → Nm → Option Bool} (hk18 : ∀ (x3 : Int32) (ν : Nm), k18 x3 ν = some true → Z g d (600000, 7302250) (mL_law nm) 333 333 262170 18 [(0, .ref 1001), (1, .ref 0), (2, .ref 313), (3, .int x3)] [] (zem ν) (Flaw g)) : ∀ (x3 : Int32) (ν : Nm), Lw_1252 (gN g) (gX g) k18 x3 ν = some true → Z g d (600000, 7302250) (mL_law nm) 333 333 262170 1252 [(0, .ref 1001), (1, .ref 0), (2, .ref 313), (3, .int x3)] [] (zem ν) (Flaw g) := by
  intro x3 ν h
  unfold Lw_1252 at h
  refine z_aload_n dL_law_1252 1 rfl ?_
  refine z_aload_n dL_law_1253 0 rfl ?_
  refine z_iload_n dL_law_1254 3 rfl ?_
  refine z_iconst (M := (mL_law nm)) (v := 1) dL_law_1255 rfl ?_
  refine z_iadd dL_law_1256 ?_
  obtain ⟨hi1, h⟩ := oif h
  refine z_sald dL_law_1257 (inb_vp hi1) ?_
  refine z_aload_n dL_law_1258 0 rfl ?_
  refine z_iload_n dL_law_1259 3 rfl ?_
  refine z_iconst (M := (mL_law nm)) (v := 2) dL_law_1260 rfl ?_
  refine z_iadd dL_law_1261 ?_
  obtain ⟨hi2, h⟩ := oif h
  refine z_sald dL_law_1262 (inb_vp hi2) ?_
  obtain ⟨v3, he3, h⟩ := obind h
  refine yG_Vi (M := (mL_law nm)) (Y := mX11_take) (d2 := d - 1) (As := [.int (gX g (x3 + (1 : Int32)).toNatClampNeg), .int (gX g (x3 + (2 : Int32)).toNatClampNeg)]) (st := []) dL_law_1263 mlRL_153 cv_X11_take zk_0 (ct_Fm_take (dle (Nat.le_of_ble_eq_true rfl) hd0) he3) (dps (Nat.le_of_ble_eq_true rfl) hd0) rfl rfl (Nat.le_of_ble_eq_true rfl) ?_
  refine z_aload_n dL_law_1266 2 rfl ?_
  refine z_aload_n dL_law_1267 0 rfl ?_
  refine z_iload_n dL_law_1268 3 rfl ?_
  refine z_iconst (M := (mL_law nm)) (v := 1) dL_law_1269 rfl ?_
  refine z_iadd dL_law_1270 ?_
  obtain ⟨hi4, h⟩ := oif h
  refine z_sald dL_law_1271 (inb_vp hi4) ?_
  refine z_aload_n dL_law_1272 0 rfl ?_
  refine z_iload_n dL_law_1273 3 rfl ?_
  refine z_iconst (M := (mL_law nm)) (v := 2) dL_law_1274 rfl ?_
  refine z_iadd dL_law_1275 ?_
  obtain ⟨hi5, h⟩ := oif h
  refine z_sald dL_law_1276 (inb_vp hi5) ?_
  obtain ⟨v6, he6, h⟩ := obind h
  refine yG_Vi (M := (mL_law nm)) (Y := mX12_take) (d2 := d - 1) (As := [.int (gX g (x3 + (1 : Int32)).toNatClampNeg), .int (gX g (x3 + (2 : Int32)).toNatClampNeg)]) (st := [.int v3.1]) dL_law_1277 mlRL_156 cv_X12_take zk_313 (ct_Md_take (dle (Nat.le_of_ble_eq_true rfl) hd0) he6) (dps (Nat.le_of_ble_eq_true rfl) hd0) rfl rfl (Nat.le_of_ble_eq_true rfl) ?_
  refine z_icmp_eq 1706 dL_law_1280 rfl (fun hc7 => ?_) (fun hc7 => ?_)
  · replace h := oT hc7 h
    exact t_Lw_1706 hd0 hk18 x3 v6.2 h
  · replace h := oF hc7 h
    refine z_iconst (M := (mL_law nm)) (v := 0) dL_law_1283 rfl ?_
    cases h
def Lw_1326 (N : Nat) (xs : Nat → Int32) (k18 : Int32 → Nm → Option Bool) (x3 : Int32) (s0 : Int32) (s1 : Int32) (s3 : Int32) (ν : Nm) : Option Bool :=
  (Md_wet s1 s0 ν).bind fun v1 =>
  (if s3 = (b2i v1.1) then
    Lw_1706 N xs k18 x3 v1.2
  else
    some false)
set_option maxRecDepth 100000 in
set_option maxHeartbeats 4000000 in
theorem t_Lw_1326 {g : GG} {d : Nat} {nm : String} (hd0 : 1000 ≤ d) {k18 : Int32 → Nm → Option Bool} (hk18 : ∀ (x3 : Int32) (ν : Nm), k18 x3 ν = some true → Z g d (600000, 7302250) (mL_law nm) 333 333 262170 18 [(0, .ref 1001), (1, .ref 0), (2, .ref 313), (3, .int x3)] [] (zem ν) (Flaw g)) : ∀ (x3 : Int32) (s0 : Int32) (s1 : Int32) (s3 : Int32) (ν : Nm), Lw_1326 (gN g) (gX g) k18 x3 s0 s1 s3 ν = some true → Z g d (600000, 7302250) (mL_law nm) 333 333 262170 1326 [(0, .ref 1001), (1, .ref 0), (2, .ref 313), (3, .int x3)] [.int s0, .int s1, .ref 313, .int s3] (zem ν) (Flaw g) := by
  intro x3 s0 s1 s3 ν h
  unfold Lw_1326 at h
  obtain ⟨v1, he1, h⟩ := obind h
  refine yG_Vi (M := (mL_law nm)) (Y := mX12_wet) (d2 := d - 1) (As := [.int s1, .int s0]) (st := [.int s3]) dL_law_1326 mlRL_160 cv_X12_wet zk_313 (ct_Md_wet (dle (Nat.le_of_ble_eq_true rfl) hd0) he1) (dps (Nat.le_of_ble_eq_true rfl) hd0) rfl rfl (Nat.le_of_ble_eq_true rfl) ?_
  refine z_icmp_eq 1706 dL_law_1329 rfl (fun hc2 => ?_) (fun hc2 => ?_)
  · replace h := oT hc2 h
    exact t_Lw_1706 hd0 hk18 x3 v1.2 h
  · replace h := oF hc2 h
    refine z_iconst (M := (mL_law nm)) (v := 0) dL_law_1332 rfl ?_
    cases h
def Lw_1304 (N : Nat) (xs : Nat → Int32) (k18 : Int32 → Nm → Option Bool) (x3 : Int32) (s0 : Int32) (s1 : Int32) (ν : Nm) : Option Bool :=
  (Fm_wet s1 s0 ν).bind fun v1 =>
  if inb (x3 + (1 : Int32)) N then
  if inb (x3 + (2 : Int32)) N then
  (if (xs (x3 + (2 : Int32)).toNatClampNeg) = 0 then
    Lw_1326 N xs k18 x3 (0 : Int32) (xs (x3 + (1 : Int32)).toNatClampNeg) (b2i v1.1) v1.2
  else
    Lw_1326 N xs k18 x3 (1 : Int32) (xs (x3 + (1 : Int32)).toNatClampNeg) (b2i v1.1) v1.2)
  else none
  else none
set_option maxRecDepth 100000 in
set_option maxHeartbeats 4000000 in
theorem t_Lw_1304 {g : GG} {d : Nat} {nm : String} (hd0 : 1000 ≤ d) {k18 : Int32 → Nm → Option Bool} (hk18 : ∀ (x3 : Int32) (ν : Nm), k18 x3 ν = some true → Z g d (600000, 7302250) (mL_law nm) 333 333 262170 18 [(0, .ref 1001), (1, .ref 0), (2, .ref 313), (3, .int x3)] [] (zem ν) (Flaw g)) : ∀ (x3 : Int32) (s0 : Int32) (s1 : Int32) (ν : Nm), Lw_1304 (gN g) (gX g) k18 x3 s0 s1 ν = some true → Z g d (600000, 7302250) (mL_law nm) 333 333 262170 1304 [(0, .ref 1001), (1, .ref 0), (2, .ref 313), (3, .int x3)] [.int s0, .int s1, .ref 0] (zem ν) (Flaw g) := by
  intro x3 s0 s1 ν h
  unfold Lw_1304 at h
  obtain ⟨v1, he1, h⟩ := obind h
  refine yG_Vi (M := (mL_law nm)) (Y := mX11_wet) (d2 := d - 1) (As := [.int s1, .int s0]) (st := []) dL_law_1304 mlRL_157 cv_X11_wet zk_0 (ct_Fm_wet (dle (Nat.le_of_ble_eq_true rfl) hd0) he1) (dps (Nat.le_of_ble_eq_true rfl) hd0) rfl rfl (Nat.le_of_ble_eq_true rfl) ?_
  refine z_aload_n dL_law_1307 2 rfl ?_
  refine z_aload_n dL_law_1308 0 rfl ?_
  refine z_iload_n dL_law_1309 3 rfl ?_
  refine z_iconst (M := (mL_law nm)) (v := 1) dL_law_1310 rfl ?_
  refine z_iadd dL_law_1311 ?_
  obtain ⟨hi2, h⟩ := oif h
  refine z_sald dL_law_1312 (inb_vp hi2) ?_
  refine z_aload_n dL_law_1313 0 rfl ?_
  refine z_iload_n dL_law_1314 3 rfl ?_
  refine z_iconst (M := (mL_law nm)) (v := 2) dL_law_1315 rfl ?_
  refine z_iadd dL_law_1316 ?_
  obtain ⟨hi3, h⟩ := oif h
  refine z_sald dL_law_1317 (inb_vp hi3) ?_
  refine z_if_eq 1325 dL_law_1318 rfl (fun hc4 => ?_) (fun hc4 => ?_)
  · replace h := oT hc4 h
    refine z_iconst (M := (mL_law nm)) (v := 0) dL_law_1325 rfl ?_
    exact t_Lw_1326 hd0 hk18 x3 (0 : Int32) (gX g (x3 + (1 : Int32)).toNatClampNeg) (b2i v1.1) v1.2 h
  · replace h := oF hc4 h
    refine z_iconst (M := (mL_law nm)) (v := 1) dL_law_1321 rfl ?_
    refine z_goto 1326 dL_law_1322 rfl ?_
    exact t_Lw_1326 hd0 hk18 x3 (1 : Int32) (gX g (x3 + (1 : Int32)).toNatClampNeg) (b2i v1.1) v1.2 h
def Lw_1285 (N : Nat) (xs : Nat → Int32) (k18 : Int32 → Nm → Option Bool) (x3 : Int32) (ν : Nm) : Option Bool :=
  if inb (x3 + (1 : Int32)) N then
  if inb (x3 + (2 : Int32)) N then
  (if (xs (x3 + (2 : Int32)).toNatClampNeg) = 0 then
    Lw_1304 N xs k18 x3 (0 : Int32) (xs (x3 + (1 : Int32)).toNatClampNeg) ν
  else
    Lw_1304 N xs k18 x3 (1 : Int32) (xs (x3 + (1 : Int32)).toNatClampNeg) ν)
  else none
  else none
set_option maxRecDepth 100000 in
set_option maxHeartbeats 4000000 in
theorem t_Lw_1285 {g : GG} {d : Nat} {nm : String} (hd0 : 1000 ≤ d) {k18 : Int32 → Nm → Option Bool} (hk18 : ∀ (x3 : Int32) (ν : Nm), k18 x3 ν = some true → Z g d (600000, 7302250) (mL_law nm) 333 333 262170 18 [(0, .ref 1001), (1, .ref 0), (2, .ref 313), (3, .int x3)] [] (zem ν) (Flaw g)) : ∀ (x3 : Int32) (ν : Nm), Lw_1285 (gN g) (gX g) k18 x3 ν = some true → Z g d (600000, 7302250) (mL_law nm) 333 333 262170 1285 [(0, .ref 1001), (1, .ref 0), (2, .ref 313), (3, .int x3)] [] (zem ν) (Flaw g) := by
  intro x3 ν h
  unfold Lw_1285 at h
  refine z_aload_n dL_law_1285 1 rfl ?_
  refine z_aload_n dL_law_1286 0 rfl ?_
  refine z_iload_n dL_law_1287 3 rfl ?_
  refine z_iconst (M := (mL_law nm)) (v := 1) dL_law_1288 rfl ?_
  refine z_iadd dL_law_1289 ?_
  obtain ⟨hi1, h⟩ := oif h
  refine z_sald dL_law_1290 (inb_vp hi1) ?_
  refine z_aload_n dL_law_1291 0 rfl ?_
  refine z_iload_n dL_law_1292 3 rfl ?_
  refine z_iconst (M := (mL_law nm)) (v := 2) dL_law_1293 rfl ?_
  refine z_iadd dL_law_1294 ?_
  obtain ⟨hi2, h⟩ := oif h
  refine z_sald dL_law_1295 (inb_vp hi2) ?_
  refine z_if_eq 1303 dL_law_1296 rfl (fun hc3 => ?_) (fun hc3 => ?_)
  · replace h := oT hc3 h
    refine z_iconst (M := (mL_law nm)) (v := 0) dL_law_1303 rfl ?_
    exact t_Lw_1304 hd0 hk18 x3 (0 : Int32) (gX g (x3 + (1 : Int32)).toNatClampNeg) ν h
  · replace h := oF hc3 h
    refine z_iconst (M := (mL_law nm)) (v := 1) dL_law_1299 rfl ?_
    refine z_goto 1304 dL_law_1300 rfl ?_
    exact t_Lw_1304 hd0 hk18 x3 (1 : Int32) (gX g (x3 + (1 : Int32)).toNatClampNeg) ν h
def Lw_1375 (N : Nat) (xs : Nat → Int32) (k18 : Int32 → Nm → Option Bool) (x3 : Int32) (s0 : Int32) (s1 : Int32) (s3 : Int32) (ν : Nm) : Option Bool :=
  (Md_tried s1 s0 ν).bind fun v1 =>
  (if s3 = v1.1 then
    Lw_1706 N xs k18 x3 v1.2
  else
    some false)
set_option maxRecDepth 100000 in
set_option maxHeartbeats 4000000 in
theorem t_Lw_1375 {g : GG} {d : Nat} {nm : String} (hd0 : 1000 ≤ d) {k18 : Int32 → Nm → Option Bool} (hk18 : ∀ (x3 : Int32) (ν : Nm), k18 x3 ν = some true → Z g d (600000, 7302250) (mL_law nm) 333 333 262170 18 [(0, .ref 1001), (1, .ref 0), (2, .ref 313), (3, .int x3)] [] (zem ν) (Flaw g)) : ∀ (x3 : Int32) (s0 : Int32) (s1 : Int32) (s3 : Int32) (ν : Nm), Lw_1375 (gN g) (gX g) k18 x3 s0 s1 s3 ν = some true → Z g d (600000, 7302250) (mL_law nm) 333 333 262170 1375 [(0, .ref 1001), (1, .ref 0), (2, .ref 313), (3, .int x3)] [.int s0, .int s1, .ref 313, .int s3] (zem ν) (Flaw g) := by
  intro x3 s0 s1 s3 ν h
  unfold Lw_1375 at h
  obtain ⟨v1, he1, h⟩ := obind h
  refine yG_Vi (M := (mL_law nm)) (Y := mX12_tried) (d2 := d - 1) (As := [.int s1, .int s0]) (st := [.int s3]) dL_law_1375 mlRL_164 cv_X12_tried zk_313 (ct_Md_tried (dle (Nat.le_of_ble_eq_true rfl) hd0) he1) (dps (Nat.le_of_ble_eq_true rfl) hd0) rfl rfl (Nat.le_of_ble_eq_true rfl) ?_
  refine z_icmp_eq 1706 dL_law_1378 rfl (fun hc2 => ?_) (fun hc2 => ?_)
  · replace h := oT hc2 h
    exact t_Lw_1706 hd0 hk18 x3 v1.2 h
  · replace h := oF hc2 h
    refine z_iconst (M := (mL_law nm)) (v := 0) dL_law_1381 rfl ?_
    cases h
def Lw_1353 (N : Nat) (xs : Nat → Int32) (k18 : Int32 → Nm → Option Bool) (x3 : Int32) (s0 : Int32) (s1 : Int32) (ν : Nm) : Option Bool :=
  (Fm_tried s1 s0 ν).bind fun v1 =>
  if inb (x3 + (1 : Int32)) N then
  if inb (x3 + (2 : Int32)) N then
  (if (xs (x3 + (2 : Int32)).toNatClampNeg) = 0 then
    Lw_1375 N xs k18 x3 (0 : Int32) (xs (x3 + (1 : Int32)).toNatClampNeg) v1.1 v1.2
  else
    Lw_1375 N xs k18 x3 (1 : Int32) (xs (x3 + (1 : Int32)).toNatClampNeg) v1.1 v1.2)
  else none
  else none
set_option maxRecDepth 100000 in
set_option maxHeartbeats 4000000 in
theorem t_Lw_1353 {g : GG} {d : Nat} {nm : String} (hd0 : 1000 ≤ d) {k18 : Int32 → Nm → Option Bool} (hk18 : ∀ (x3 : Int32) (ν : Nm), k18 x3 ν = some true → Z g d (600000, 7302250) (mL_law nm) 333 333 262170 18 [(0, .ref 1001), (1, .ref 0), (2, .ref 313), (3, .int x3)] [] (zem ν) (Flaw g)) : ∀ (x3 : Int32) (s0 : Int32) (s1 : Int32) (ν : Nm), Lw_1353 (gN g) (gX g) k18 x3 s0 s1 ν = some true → Z g d (600000, 7302250) (mL_law nm) 333 333 262170 1353 [(0, .ref 1001), (1, .ref 0), (2, .ref 313), (3, .int x3)] [.int s0, .int s1, .ref 0] (zem ν) (Flaw g) := by
  intro x3 s0 s1 ν h
  unfold Lw_1353 at h
  obtain ⟨v1, he1, h⟩ := obind h
  refine yG_Vi (M := (mL_law nm)) (Y := mX11_tried) (d2 := d - 1) (As := [.int s1, .int s0]) (st := []) dL_law_1353 mlRL_161 cv_X11_tried zk_0 (ct_Fm_tried (dle (Nat.le_of_ble_eq_true rfl) hd0) he1) (dps (Nat.le_of_ble_eq_true rfl) hd0) rfl rfl (Nat.le_of_ble_eq_true rfl) ?_
  refine z_aload_n dL_law_1356 2 rfl ?_
  refine z_aload_n dL_law_1357 0 rfl ?_
  refine z_iload_n dL_law_1358 3 rfl ?_
  refine z_iconst (M := (mL_law nm)) (v := 1) dL_law_1359 rfl ?_
  refine z_iadd dL_law_1360 ?_
  obtain ⟨hi2, h⟩ := oif h
  refine z_sald dL_law_1361 (inb_vp hi2) ?_
  refine z_aload_n dL_law_1362 0 rfl ?_
  refine z_iload_n dL_law_1363 3 rfl ?_
  refine z_iconst (M := (mL_law nm)) (v := 2) dL_law_1364 rfl ?_
  refine z_iadd dL_law_1365 ?_
  obtain ⟨hi3, h⟩ := oif h
  refine z_sald dL_law_1366 (inb_vp hi3) ?_
  refine z_if_eq 1374 dL_law_1367 rfl (fun hc4 => ?_) (fun hc4 => ?_)
  · replace h := oT hc4 h
    refine z_iconst (M := (mL_law nm)) (v := 0) dL_law_1374 rfl ?_
    exact t_Lw_1375 hd0 hk18 x3 (0 : Int32) (gX g (x3 + (1 : Int32)).toNatClampNeg) v1.1 v1.2 h
  · replace h := oF hc4 h
    refine z_iconst (M := (mL_law nm)) (v := 1) dL_law_1370 rfl ?_
    refine z_goto 1375 dL_law_1371 rfl ?_
    exact t_Lw_1375 hd0 hk18 x3 (1 : Int32) (gX g (x3 + (1 : Int32)).toNatClampNeg) v1.1 v1.2 h
def Lw_1334 (N : Nat) (xs : Nat → Int32) (k18 : Int32 → Nm → Option Bool) (x3 : Int32) (ν : Nm) : Option Bool :=
  if inb (x3 + (1 : Int32)) N then
  if inb (x3 + (2 : Int32)) N then
  (if (xs (x3 + (2 : Int32)).toNatClampNeg) = 0 then
    Lw_1353 N xs k18 x3 (0 : Int32) (xs (x3 + (1 : Int32)).toNatClampNeg) ν
  else
    Lw_1353 N xs k18 x3 (1 : Int32) (xs (x3 + (1 : Int32)).toNatClampNeg) ν)
  else none
  else none
set_option maxRecDepth 100000 in
set_option maxHeartbeats 4000000 in
theorem t_Lw_1334 {g : GG} {d : Nat} {nm : String} (hd0 : 1000 ≤ d) {k18 : Int32 → Nm → Option Bool} (hk18 : ∀ (x3 : Int32) (ν : Nm), k18 x3 ν = some true → Z g d (600000, 7302250) (mL_law nm) 333 333 262170 18 [(0, .ref 1001), (1, .ref 0), (2, .ref 313), (3, .int x3)] [] (zem ν) (Flaw g)) : ∀ (x3 : Int32) (ν : Nm), Lw_1334 (gN g) (gX g) k18 x3 ν = some true → Z g d (600000, 7302250) (mL_law nm) 333 333 262170 1334 [(0, .ref 1001), (1, .ref 0), (2, .ref 313), (3, .int x3)] [] (zem ν) (Flaw g) := by
  intro x3 ν h
  unfold Lw_1334 at h
  refine z_aload_n dL_law_1334 1 rfl ?_
  refine z_aload_n dL_law_1335 0 rfl ?_
  refine z_iload_n dL_law_1336 3 rfl ?_
  refine z_iconst (M := (mL_law nm)) (v := 1) dL_law_1337 rfl ?_
  refine z_iadd dL_law_1338 ?_
  obtain ⟨hi1, h⟩ := oif h
  refine z_sald dL_law_1339 (inb_vp hi1) ?_
  refine z_aload_n dL_law_1340 0 rfl ?_
  refine z_iload_n dL_law_1341 3 rfl ?_
  refine z_iconst (M := (mL_law nm)) (v := 2) dL_law_1342 rfl ?_
  refine z_iadd dL_law_1343 ?_
  obtain ⟨hi2, h⟩ := oif h
  refine z_sald dL_law_1344 (inb_vp hi2) ?_
  refine z_if_eq 1352 dL_law_1345 rfl (fun hc3 => ?_) (fun hc3 => ?_)
  · replace h := oT hc3 h
    refine z_iconst (M := (mL_law nm)) (v := 0) dL_law_1352 rfl ?_
    exact t_Lw_1353 hd0 hk18 x3 (0 : Int32) (gX g (x3 + (1 : Int32)).toNatClampNeg) ν h
  · replace h := oF hc3 h
    refine z_iconst (M := (mL_law nm)) (v := 1) dL_law_1348 rfl ?_
    refine z_goto 1353 dL_law_1349 rfl ?_
    exact t_Lw_1353 hd0 hk18 x3 (1 : Int32) (gX g (x3 + (1 : Int32)).toNatClampNeg) ν h
def Lw_1383 (N : Nat) (xs : Nat → Int32) (k18 : Int32 → Nm → Option Bool) (x3 : Int32) (ν : Nm) : Option Bool :=
  if inb (x3 + (1 : Int32)) N then
  (Fm_suspects ν (xs (x3 + (1 : Int32)).toNatClampNeg)).bind fun v2 =>
  if inb (x3 + (1 : Int32)) N then
  (Md_suspects ν (xs (x3 + (1 : Int32)).toNatClampNeg)).bind fun v4 =>
  (if v2 = v4 then
    Lw_1706 N xs k18 x3 ν
  else
    some false)
  else none
  else none
set_option maxRecDepth 100000 in
set_option maxHeartbeats 4000000 in
theorem t_Lw_1383 {g : GG} {d : Nat} {nm : String} (hd0 : 1000 ≤ d) {k18 : Int32 → Nm → Option Bool} (hk18 : ∀ (x3 : Int32) (ν : Nm), k18 x3 ν = some true → Z g d (600000, 7302250) (mL_law nm) 333 333 262170 18 [(0, .ref 1001), (1, .ref 0), (2, .ref 313), (3, .int x3)] [] (zem ν) (Flaw g)) : ∀ (x3 : Int32) (ν : Nm), Lw_1383 (gN g) (gX g) k18 x3 ν = some true → Z g d (600000, 7302250) (mL_law nm) 333 333 262170 1383 [(0, .ref 1001), (1, .ref 0), (2, .ref 313), (3, .int x3)] [] (zem ν) (Flaw g) := by
  intro x3 ν h
  unfold Lw_1383 at h
  refine z_aload_n dL_law_1383 1 rfl ?_
  refine z_aload_n dL_law_1384 0 rfl ?_
  refine z_iload_n dL_law_1385 3 rfl ?_
  refine z_iconst (M := (mL_law nm)) (v := 1) dL_law_1386 rfl ?_
  refine z_iadd dL_law_1387 ?_
  obtain ⟨hi1, h⟩ := oif h
  refine z_sald dL_law_1388 (inb_vp hi1) ?_
  obtain ⟨v2, he2, h⟩ := obind h
  refine yG_Vi (M := (mL_law nm)) (Y := mX11_suspects) (d2 := d - 1) (As := [.int (gX g (x3 + (1 : Int32)).toNatClampNeg)]) (st := []) dL_law_1389 mlRL_165 cv_X11_suspects zk_0 (ct_Fm_suspects (dle (Nat.le_of_ble_eq_true rfl) hd0) he2) (dps (Nat.le_of_ble_eq_true rfl) hd0) rfl rfl (Nat.le_of_ble_eq_true rfl) ?_
  refine z_aload_n dL_law_1392 2 rfl ?_
  refine z_aload_n dL_law_1393 0 rfl ?_
  refine z_iload_n dL_law_1394 3 rfl ?_
  refine z_iconst (M := (mL_law nm)) (v := 1) dL_law_1395 rfl ?_
  refine z_iadd dL_law_1396 ?_
  obtain ⟨hi3, h⟩ := oif h
  refine z_sald dL_law_1397 (inb_vp hi3) ?_
  obtain ⟨v4, he4, h⟩ := obind h
  refine yG_Vi (M := (mL_law nm)) (Y := mX12_suspects) (d2 := d - 1) (As := [.int (gX g (x3 + (1 : Int32)).toNatClampNeg)]) (st := [.int v2]) dL_law_1398 mlRL_168 cv_X12_suspects zk_313 (ct_Md_suspects (dle (Nat.le_of_ble_eq_true rfl) hd0) he4) (dps (Nat.le_of_ble_eq_true rfl) hd0) rfl rfl (Nat.le_of_ble_eq_true rfl) ?_
  refine z_icmp_eq 1706 dL_law_1401 rfl (fun hc5 => ?_) (fun hc5 => ?_)
  · replace h := oT hc5 h
    exact t_Lw_1706 hd0 hk18 x3 ν h
  · replace h := oF hc5 h
    refine z_iconst (M := (mL_law nm)) (v := 0) dL_law_1404 rfl ?_
    cases h
def Lw_1406 (N : Nat) (xs : Nat → Int32) (k18 : Int32 → Nm → Option Bool) (x3 : Int32) (ν : Nm) : Option Bool :=
  (Fm_test ν).bind fun v1 =>
  (Md_test ν).bind fun v2 =>
  (if v1 = v2 then
    Lw_1706 N xs k18 x3 ν
  else
    some false)
set_option maxRecDepth 100000 in
set_option maxHeartbeats 4000000 in
theorem t_Lw_1406 {g : GG} {d : Nat} {nm : String} (hd0 : 1000 ≤ d) {k18 : Int32 → Nm → Option Bool} (hk18 : ∀ (x3 : Int32) (ν : Nm), k18 x3 ν = some true → Z g d (600000, 7302250) (mL_law nm) 333 333 262170 18 [(0, .ref 1001), (1, .ref 0), (2, .ref 313), (3, .int x3)] [] (zem ν) (Flaw g)) : ∀ (x3 : Int32) (ν : Nm), Lw_1406 (gN g) (gX g) k18 x3 ν = some true → Z g d (600000, 7302250) (mL_law nm) 333 333 262170 1406 [(0, .ref 1001), (1, .ref 0), (2, .ref 313), (3, .int x3)] [] (zem ν) (Flaw g) := by
  intro x3 ν h
  unfold Lw_1406 at h
  refine z_aload_n dL_law_1406 1 rfl ?_
  obtain ⟨v1, he1, h⟩ := obind h
  refine yG_Vi (M := (mL_law nm)) (Y := mX11_test) (d2 := d - 1) (As := []) (st := []) dL_law_1407 mlRL_169 cv_X11_test zk_0 (ct_Fm_test (dle (Nat.le_of_ble_eq_true rfl) hd0) he1) (dps (Nat.le_of_ble_eq_true rfl) hd0) rfl rfl (Nat.le_of_ble_eq_true rfl) ?_
  refine z_aload_n dL_law_1410 2 rfl ?_
  obtain ⟨v2, he2, h⟩ := obind h
  refine yG_Vi (M := (mL_law nm)) (Y := mX12_test) (d2 := d - 1) (As := []) (st := [.int v1]) dL_law_1411 mlRL_172 cv_X12_test zk_313 (ct_Md_test (dle (Nat.le_of_ble_eq_true rfl) hd0) he2) (dps (Nat.le_of_ble_eq_true rfl) hd0) rfl rfl (Nat.le_of_ble_eq_true rfl) ?_
  refine z_icmp_eq 1706 dL_law_1414 rfl (fun hc3 => ?_) (fun hc3 => ?_)
  · replace h := oT hc3 h
    exact t_Lw_1706 hd0 hk18 x3 ν h
  · replace h := oF hc3 h
    refine z_iconst (M := (mL_law nm)) (v := 0) dL_law_1417 rfl ?_
    cases h
def Lw_1470 (N : Nat) (xs : Nat → Int32) (k18 : Int32 → Nm → Option Bool) (x3 : Int32) (s0 : Int32) (s1 : Int32) (s2 : Int32) (s4 : Int64) (ν : Nm) : Option Bool :=
  (Md_right s2 s1 s0).bind fun v1 =>
  (if (lg_cmp s4 v1) = 0 then
    Lw_1706 N xs k18 x3 ν
  else
    some false)
set_option maxRecDepth 100000 in
set_option maxHeartbeats 4000000 in
theorem t_Lw_1470 {g : GG} {d : Nat} {nm : String} (hd0 : 1000 ≤ d) {k18 : Int32 → Nm → Option Bool} (hk18 : ∀ (x3 : Int32) (ν : Nm), k18 x3 ν = some true → Z g d (600000, 7302250) (mL_law nm) 333 333 262170 18 [(0, .ref 1001), (1, .ref 0), (2, .ref 313), (3, .int x3)] [] (zem ν) (Flaw g)) : ∀ (x3 : Int32) (s0 : Int32) (s1 : Int32) (s2 : Int32) (s4 : Int64) (ν : Nm), Lw_1470 (gN g) (gX g) k18 x3 s0 s1 s2 s4 ν = some true → Z g d (600000, 7302250) (mL_law nm) 333 333 262170 1470 [(0, .ref 1001), (1, .ref 0), (2, .ref 313), (3, .int x3)] [.int s0, .int s1, .int s2, .ref 313, .long s4] (zem ν) (Flaw g) := by
  intro x3 s0 s1 s2 s4 ν h
  unfold Lw_1470 at h
  obtain ⟨v1, he1, h⟩ := obind h
  refine yG_Vl (M := (mL_law nm)) (Y := mX12_right) (d2 := d - 1) (As := [.int s2, .int s1, .int s0]) (st := [.long s4]) dL_law_1470 mlRL_177 cv_X12_right zk_313 (ct_Md_right (dle (Nat.le_of_ble_eq_true rfl) hd0) he1) (dps (Nat.le_of_ble_eq_true rfl) hd0) rfl rfl (Nat.le_of_ble_eq_true rfl) ?_
  refine z_lcmp dL_law_1473 ?_
  refine z_if_eq 1706 dL_law_1474 rfl (fun hc2 => ?_) (fun hc2 => ?_)
  · replace h := oT hc2 h
    exact t_Lw_1706 hd0 hk18 x3 ν h
  · replace h := oF hc2 h
    refine z_iconst (M := (mL_law nm)) (v := 0) dL_law_1477 rfl ?_
    cases h
def Lw_1443 (N : Nat) (xs : Nat → Int32) (k18 : Int32 → Nm → Option Bool) (x3 : Int32) (s0 : Int32) (s1 : Int32) (s2 : Int32) (ν : Nm) : Option Bool :=
  (Fm_right s2 s1 s0).bind fun v1 =>
  if inb (x3 + (1 : Int32)) N then
  if inb (x3 + (2 : Int32)) N then
  if inb (x3 + (3 : Int32)) N then
  (if (xs (x3 + (3 : Int32)).toNatClampNeg) = 0 then
    Lw_1470 N xs k18 x3 (0 : Int32) (xs (x3 + (2 : Int32)).toNatClampNeg) (xs (x3 + (1 : Int32)).toNatClampNeg) v1 ν
  else
    Lw_1470 N xs k18 x3 (1 : Int32) (xs (x3 + (2 : Int32)).toNatClampNeg) (xs (x3 + (1 : Int32)).toNatClampNeg) v1 ν)
  else none
  else none
  else none
set_option maxRecDepth 100000 in
set_option maxHeartbeats 4000000 in
theorem t_Lw_1443 {g : GG} {d : Nat} {nm : String} (hd0 : 1000 ≤ d) {k18 : Int32 → Nm → Option Bool} (hk18 : ∀ (x3 : Int32) (ν : Nm), k18 x3 ν = some true → Z g d (600000, 7302250) (mL_law nm) 333 333 262170 18 [(0, .ref 1001), (1, .ref 0), (2, .ref 313), (3, .int x3)] [] (zem ν) (Flaw g)) : ∀ (x3 : Int32) (s0 : Int32) (s1 : Int32) (s2 : Int32) (ν : Nm), Lw_1443 (gN g) (gX g) k18 x3 s0 s1 s2 ν = some true → Z g d (600000, 7302250) (mL_law nm) 333 333 262170 1443 [(0, .ref 1001), (1, .ref 0), (2, .ref 313), (3, .int x3)] [.int s0, .int s1, .int s2, .ref 0] (zem ν) (Flaw g) := by
  intro x3 s0 s1 s2 ν h
  unfold Lw_1443 at h
  obtain ⟨v1, he1, h⟩ := obind h
  refine yG_Vl (M := (mL_law nm)) (Y := mX11_right) (d2 := d - 1) (As := [.int s2, .int s1, .int s0]) (st := []) dL_law_1443 mlRL_173 cv_X11_right zk_0 (ct_Fm_right (dle (Nat.le_of_ble_eq_true rfl) hd0) he1) (dps (Nat.le_of_ble_eq_true rfl) hd0) rfl rfl (Nat.le_of_ble_eq_true rfl) ?_
  refine z_aload_n dL_law_1446 2 rfl ?_
  refine z_aload_n dL_law_1447 0 rfl ?_
  refine z_iload_n dL_law_1448 3 rfl ?_
  refine z_iconst (M := (mL_law nm)) (v := 1) dL_law_1449 rfl ?_
  refine z_iadd dL_law_1450 ?_
  obtain ⟨hi2, h⟩ := oif h
  refine z_sald dL_law_1451 (inb_vp hi2) ?_
  refine z_aload_n dL_law_1452 0 rfl ?_
  refine z_iload_n dL_law_1453 3 rfl ?_
  refine z_iconst (M := (mL_law nm)) (v := 2) dL_law_1454 rfl ?_
  refine z_iadd dL_law_1455 ?_
  obtain ⟨hi3, h⟩ := oif h
  refine z_sald dL_law_1456 (inb_vp hi3) ?_
  refine z_aload_n dL_law_1457 0 rfl ?_
  refine z_iload_n dL_law_1458 3 rfl ?_
  refine z_iconst (M := (mL_law nm)) (v := 3) dL_law_1459 rfl ?_
  refine z_iadd dL_law_1460 ?_
  obtain ⟨hi4, h⟩ := oif h
  refine z_sald dL_law_1461 (inb_vp hi4) ?_
  refine z_if_eq 1469 dL_law_1462 rfl (fun hc5 => ?_) (fun hc5 => ?_)
  · replace h := oT hc5 h
    refine z_iconst (M := (mL_law nm)) (v := 0) dL_law_1469 rfl ?_
    exact t_Lw_1470 hd0 hk18 x3 (0 : Int32) (gX g (x3 + (2 : Int32)).toNatClampNeg) (gX g (x3 + (1 : Int32)).toNatClampNeg) v1 ν h
  · replace h := oF hc5 h
    refine z_iconst (M := (mL_law nm)) (v := 1) dL_law_1465 rfl ?_
    refine z_goto 1470 dL_law_1466 rfl ?_
    exact t_Lw_1470 hd0 hk18 x3 (1 : Int32) (gX g (x3 + (2 : Int32)).toNatClampNeg) (gX g (x3 + (1 : Int32)).toNatClampNeg) v1 ν h
def Lw_1419 (N : Nat) (xs : Nat → Int32) (k18 : Int32 → Nm → Option Bool) (x3 : Int32) (ν : Nm) : Option Bool :=
  if inb (x3 + (1 : Int32)) N then
  if inb (x3 + (2 : Int32)) N then
  if inb (x3 + (3 : Int32)) N then
  (if (xs (x3 + (3 : Int32)).toNatClampNeg) = 0 then
    Lw_1443 N xs k18 x3 (0 : Int32) (xs (x3 + (2 : Int32)).toNatClampNeg) (xs (x3 + (1 : Int32)).toNatClampNeg) ν
  else
    Lw_1443 N xs k18 x3 (1 : Int32) (xs (x3 + (2 : Int32)).toNatClampNeg) (xs (x3 + (1 : Int32)).toNatClampNeg) ν)
  else none
  else none
  else none
set_option maxRecDepth 100000 in
set_option maxHeartbeats 4000000 in
theorem t_Lw_1419 {g : GG} {d : Nat} {nm : String} (hd0 : 1000 ≤ d) {k18 : Int32 → Nm → Option Bool} (hk18 : ∀ (x3 : Int32) (ν : Nm), k18 x3 ν = some true → Z g d (600000, 7302250) (mL_law nm) 333 333 262170 18 [(0, .ref 1001), (1, .ref 0), (2, .ref 313), (3, .int x3)] [] (zem ν) (Flaw g)) : ∀ (x3 : Int32) (ν : Nm), Lw_1419 (gN g) (gX g) k18 x3 ν = some true → Z g d (600000, 7302250) (mL_law nm) 333 333 262170 1419 [(0, .ref 1001), (1, .ref 0), (2, .ref 313), (3, .int x3)] [] (zem ν) (Flaw g) := by
  intro x3 ν h
  unfold Lw_1419 at h
  refine z_aload_n dL_law_1419 1 rfl ?_
  refine z_aload_n dL_law_1420 0 rfl ?_
  refine z_iload_n dL_law_1421 3 rfl ?_
  refine z_iconst (M := (mL_law nm)) (v := 1) dL_law_1422 rfl ?_
  refine z_iadd dL_law_1423 ?_
  obtain ⟨hi1, h⟩ := oif h
  refine z_sald dL_law_1424 (inb_vp hi1) ?_
  refine z_aload_n dL_law_1425 0 rfl ?_
  refine z_iload_n dL_law_1426 3 rfl ?_
  refine z_iconst (M := (mL_law nm)) (v := 2) dL_law_1427 rfl ?_
  refine z_iadd dL_law_1428 ?_
  obtain ⟨hi2, h⟩ := oif h
  refine z_sald dL_law_1429 (inb_vp hi2) ?_
  refine z_aload_n dL_law_1430 0 rfl ?_
  refine z_iload_n dL_law_1431 3 rfl ?_
  refine z_iconst (M := (mL_law nm)) (v := 3) dL_law_1432 rfl ?_
  refine z_iadd dL_law_1433 ?_
  obtain ⟨hi3, h⟩ := oif h
  refine z_sald dL_law_1434 (inb_vp hi3) ?_
  refine z_if_eq 1442 dL_law_1435 rfl (fun hc4 => ?_) (fun hc4 => ?_)
  · replace h := oT hc4 h
    refine z_iconst (M := (mL_law nm)) (v := 0) dL_law_1442 rfl ?_
    exact t_Lw_1443 hd0 hk18 x3 (0 : Int32) (gX g (x3 + (2 : Int32)).toNatClampNeg) (gX g (x3 + (1 : Int32)).toNatClampNeg) ν h
  · replace h := oF hc4 h
    refine z_iconst (M := (mL_law nm)) (v := 1) dL_law_1438 rfl ?_
    refine z_goto 1443 dL_law_1439 rfl ?_
    exact t_Lw_1443 hd0 hk18 x3 (1 : Int32) (gX g (x3 + (2 : Int32)).toNatClampNeg) (gX g (x3 + (1 : Int32)).toNatClampNeg) ν h
def Lw_1540 (N : Nat) (xs : Nat → Int32) (k18 : Int32 → Nm → Option Bool) (x3 : Int32) (s0 : Int32) (s1 : Int32) (s2 : Int32) (s3 : Int32) (s5 : Int64) (ν : Nm) : Option Bool :=
  (Md_tries s3 s2 s1 s0).bind fun v1 =>
  (if (lg_cmp s5 v1) = 0 then
    Lw_1706 N xs k18 x3 ν
  else
    some false)
set_option maxRecDepth 100000 in
set_option maxHeartbeats 4000000 in
theorem t_Lw_1540 {g : GG} {d : Nat} {nm : String} (hd0 : 1000 ≤ d) {k18 : Int32 → Nm → Option Bool} (hk18 : ∀ (x3 : Int32) (ν : Nm), k18 x3 ν = some true → Z g d (600000, 7302250) (mL_law nm) 333 333 262170 18 [(0, .ref 1001), (1, .ref 0), (2, .ref 313), (3, .int x3)] [] (zem ν) (Flaw g)) : ∀ (x3 : Int32) (s0 : Int32) (s1 : Int32) (s2 : Int32) (s3 : Int32) (s5 : Int64) (ν : Nm), Lw_1540 (gN g) (gX g) k18 x3 s0 s1 s2 s3 s5 ν = some true → Z g d (600000, 7302250) (mL_law nm) 333 333 262170 1540 [(0, .ref 1001), (1, .ref 0), (2, .ref 313), (3, .int x3)] [.int s0, .int s1, .int s2, .int s3, .ref 313, .long s5] (zem ν) (Flaw g) := by
  intro x3 s0 s1 s2 s3 s5 ν h
  unfold Lw_1540 at h
  obtain ⟨v1, he1, h⟩ := obind h
  refine yG_Vl (M := (mL_law nm)) (Y := mX12_tries) (d2 := d - 1) (As := [.int s3, .int s2, .int s1, .int s0]) (st := [.long s5]) dL_law_1540 mlRL_182 cv_X12_tries zk_313 (ct_Md_tries (dle (Nat.le_of_ble_eq_true rfl) hd0) he1) (dps (Nat.le_of_ble_eq_true rfl) hd0) rfl rfl (Nat.le_of_ble_eq_true rfl) ?_
  refine z_lcmp dL_law_1543 ?_
  refine z_if_eq 1706 dL_law_1544 rfl (fun hc2 => ?_) (fun hc2 => ?_)
  · replace h := oT hc2 h
    exact t_Lw_1706 hd0 hk18 x3 ν h
  · replace h := oF hc2 h
    refine z_iconst (M := (mL_law nm)) (v := 0) dL_law_1547 rfl ?_
    cases h
def Lw_1508 (N : Nat) (xs : Nat → Int32) (k18 : Int32 → Nm → Option Bool) (x3 : Int32) (s0 : Int32) (s1 : Int32) (s2 : Int32) (s3 : Int32) (ν : Nm) : Option Bool :=
  (Fm_tries s3 s2 s1 s0).bind fun v1 =>
  if inb (x3 + (1 : Int32)) N then
  if inb (x3 + (2 : Int32)) N then
  if inb (x3 + (3 : Int32)) N then
  if inb (x3 + (4 : Int32)) N then
  (if (xs (x3 + (4 : Int32)).toNatClampNeg) = 0 then
    Lw_1540 N xs k18 x3 (0 : Int32) (xs (x3 + (3 : Int32)).toNatClampNeg) (xs (x3 + (2 : Int32)).toNatClampNeg) (xs (x3 + (1 : Int32)).toNatClampNeg) v1 ν
  else
    Lw_1540 N xs k18 x3 (1 : Int32) (xs (x3 + (3 : Int32)).toNatClampNeg) (xs (x3 + (2 : Int32)).toNatClampNeg) (xs (x3 + (1 : Int32)).toNatClampNeg) v1 ν)
  else none
  else none
  else none
  else none
set_option maxRecDepth 100000 in
set_option maxHeartbeats 4000000 in
theorem t_Lw_1508 {g : GG} {d : Nat} {nm : String} (hd0 : 1000 ≤ d) {k18 : Int32 → Nm → Option Bool} (hk18 : ∀ (x3 : Int32) (ν : Nm), k18 x3 ν = some true → Z g d (600000, 7302250) (mL_law nm) 333 333 262170 18 [(0, .ref 1001), (1, .ref 0), (2, .ref 313), (3, .int x3)] [] (zem ν) (Flaw g)) : ∀ (x3 : Int32) (s0 : Int32) (s1 : Int32) (s2 : Int32) (s3 : Int32) (ν : Nm), Lw_1508 (gN g) (gX g) k18 x3 s0 s1 s2 s3 ν = some true → Z g d (600000, 7302250) (mL_law nm) 333 333 262170 1508 [(0, .ref 1001), (1, .ref 0), (2, .ref 313), (3, .int x3)] [.int s0, .int s1, .int s2, .int s3, .ref 0] (zem ν) (Flaw g) := by
  intro x3 s0 s1 s2 s3 ν h
  unfold Lw_1508 at h
  obtain ⟨v1, he1, h⟩ := obind h
  refine yG_Vl (M := (mL_law nm)) (Y := mX11_tries) (d2 := d - 1) (As := [.int s3, .int s2, .int s1, .int s0]) (st := []) dL_law_1508 mlRL_178 cv_X11_tries zk_0 (ct_Fm_tries (dle (Nat.le_of_ble_eq_true rfl) hd0) he1) (dps (Nat.le_of_ble_eq_true rfl) hd0) rfl rfl (Nat.le_of_ble_eq_true rfl) ?_
  refine z_aload_n dL_law_1511 2 rfl ?_
  refine z_aload_n dL_law_1512 0 rfl ?_
  refine z_iload_n dL_law_1513 3 rfl ?_
  refine z_iconst (M := (mL_law nm)) (v := 1) dL_law_1514 rfl ?_
  refine z_iadd dL_law_1515 ?_
  obtain ⟨hi2, h⟩ := oif h
  refine z_sald dL_law_1516 (inb_vp hi2) ?_
  refine z_aload_n dL_law_1517 0 rfl ?_
  refine z_iload_n dL_law_1518 3 rfl ?_
  refine z_iconst (M := (mL_law nm)) (v := 2) dL_law_1519 rfl ?_
  refine z_iadd dL_law_1520 ?_
  obtain ⟨hi3, h⟩ := oif h
  refine z_sald dL_law_1521 (inb_vp hi3) ?_
  refine z_aload_n dL_law_1522 0 rfl ?_
  refine z_iload_n dL_law_1523 3 rfl ?_
  refine z_iconst (M := (mL_law nm)) (v := 3) dL_law_1524 rfl ?_
  refine z_iadd dL_law_1525 ?_
  obtain ⟨hi4, h⟩ := oif h
  refine z_sald dL_law_1526 (inb_vp hi4) ?_
  refine z_aload_n dL_law_1527 0 rfl ?_
  refine z_iload_n dL_law_1528 3 rfl ?_
  refine z_iconst (M := (mL_law nm)) (v := 4) dL_law_1529 rfl ?_
  refine z_iadd dL_law_1530 ?_
  obtain ⟨hi5, h⟩ := oif h
  refine z_sald dL_law_1531 (inb_vp hi5) ?_
  refine z_if_eq 1539 dL_law_1532 rfl (fun hc6 => ?_) (fun hc6 => ?_)
  · replace h := oT hc6 h
    refine z_iconst (M := (mL_law nm)) (v := 0) dL_law_1539 rfl ?_
    exact t_Lw_1540 hd0 hk18 x3 (0 : Int32) (gX g (x3 + (3 : Int32)).toNatClampNeg) (gX g (x3 + (2 : Int32)).toNatClampNeg) (gX g (x3 + (1 : Int32)).toNatClampNeg) v1 ν h
  · replace h := oF hc6 h
    refine z_iconst (M := (mL_law nm)) (v := 1) dL_law_1535 rfl ?_
    refine z_goto 1540 dL_law_1536 rfl ?_
    exact t_Lw_1540 hd0 hk18 x3 (1 : Int32) (gX g (x3 + (3 : Int32)).toNatClampNeg) (gX g (x3 + (2 : Int32)).toNatClampNeg) (gX g (x3 + (1 : Int32)).toNatClampNeg) v1 ν h
def Lw_1479 (N : Nat) (xs : Nat → Int32) (k18 : Int32 → Nm → Option Bool) (x3 : Int32) (ν : Nm) : Option Bool :=
  if inb (x3 + (1 : Int32)) N then
  if inb (x3 + (2 : Int32)) N then
  if inb (x3 + (3 : Int32)) N then
  if inb (x3 + (4 : Int32)) N then
  (if (xs (x3 + (4 : Int32)).toNatClampNeg) = 0 then
    Lw_1508 N xs k18 x3 (0 : Int32) (xs (x3 + (3 : Int32)).toNatClampNeg) (xs (x3 + (2 : Int32)).toNatClampNeg) (xs (x3 + (1 : Int32)).toNatClampNeg) ν
  else
    Lw_1508 N xs k18 x3 (1 : Int32) (xs (x3 + (3 : Int32)).toNatClampNeg) (xs (x3 + (2 : Int32)).toNatClampNeg) (xs (x3 + (1 : Int32)).toNatClampNeg) ν)
  else none
  else none
  else none
  else none
set_option maxRecDepth 100000 in
set_option maxHeartbeats 4000000 in
theorem t_Lw_1479 {g : GG} {d : Nat} {nm : String} (hd0 : 1000 ≤ d) {k18 : Int32 → Nm → Option Bool} (hk18 : ∀ (x3 : Int32) (ν : Nm), k18 x3 ν = some true → Z g d (600000, 7302250) (mL_law nm) 333 333 262170 18 [(0, .ref 1001), (1, .ref 0), (2, .ref 313), (3, .int x3)] [] (zem ν) (Flaw g)) : ∀ (x3 : Int32) (ν : Nm), Lw_1479 (gN g) (gX g) k18 x3 ν = some true → Z g d (600000, 7302250) (mL_law nm) 333 333 262170 1479 [(0, .ref 1001), (1, .ref 0), (2, .ref 313), (3, .int x3)] [] (zem ν) (Flaw g) := by
  intro x3 ν h
  unfold Lw_1479 at h
  refine z_aload_n dL_law_1479 1 rfl ?_
  refine z_aload_n dL_law_1480 0 rfl ?_
  refine z_iload_n dL_law_1481 3 rfl ?_
  refine z_iconst (M := (mL_law nm)) (v := 1) dL_law_1482 rfl ?_
  refine z_iadd dL_law_1483 ?_
  obtain ⟨hi1, h⟩ := oif h
  refine z_sald dL_law_1484 (inb_vp hi1) ?_
  refine z_aload_n dL_law_1485 0 rfl ?_
  refine z_iload_n dL_law_1486 3 rfl ?_
  refine z_iconst (M := (mL_law nm)) (v := 2) dL_law_1487 rfl ?_
  refine z_iadd dL_law_1488 ?_
  obtain ⟨hi2, h⟩ := oif h
  refine z_sald dL_law_1489 (inb_vp hi2) ?_
  refine z_aload_n dL_law_1490 0 rfl ?_
  refine z_iload_n dL_law_1491 3 rfl ?_
  refine z_iconst (M := (mL_law nm)) (v := 3) dL_law_1492 rfl ?_
  refine z_iadd dL_law_1493 ?_
  obtain ⟨hi3, h⟩ := oif h
  refine z_sald dL_law_1494 (inb_vp hi3) ?_
  refine z_aload_n dL_law_1495 0 rfl ?_
  refine z_iload_n dL_law_1496 3 rfl ?_
  refine z_iconst (M := (mL_law nm)) (v := 4) dL_law_1497 rfl ?_
  refine z_iadd dL_law_1498 ?_
  obtain ⟨hi4, h⟩ := oif h
  refine z_sald dL_law_1499 (inb_vp hi4) ?_
  refine z_if_eq 1507 dL_law_1500 rfl (fun hc5 => ?_) (fun hc5 => ?_)
  · replace h := oT hc5 h
    refine z_iconst (M := (mL_law nm)) (v := 0) dL_law_1507 rfl ?_
    exact t_Lw_1508 hd0 hk18 x3 (0 : Int32) (gX g (x3 + (3 : Int32)).toNatClampNeg) (gX g (x3 + (2 : Int32)).toNatClampNeg) (gX g (x3 + (1 : Int32)).toNatClampNeg) ν h
  · replace h := oF hc5 h
    refine z_iconst (M := (mL_law nm)) (v := 1) dL_law_1503 rfl ?_
    refine z_goto 1508 dL_law_1504 rfl ?_
    exact t_Lw_1508 hd0 hk18 x3 (1 : Int32) (gX g (x3 + (3 : Int32)).toNatClampNeg) (gX g (x3 + (2 : Int32)).toNatClampNeg) (gX g (x3 + (1 : Int32)).toNatClampNeg) ν h
def Lw_1549 (N : Nat) (xs : Nat → Int32) (k18 : Int32 → Nm → Option Bool) (x3 : Int32) (ν : Nm) : Option Bool :=
  if inb (x3 + (1 : Int32)) N then
  if inb (x3 + (2 : Int32)) N then
  (Fm_said (xs (x3 + (1 : Int32)).toNatClampNeg) (xs (x3 + (2 : Int32)).toNatClampNeg) ν).bind fun v3 =>
  if inb (x3 + (1 : Int32)) N then
  if inb (x3 + (2 : Int32)) N then
  (Md_said (xs (x3 + (1 : Int32)).toNatClampNeg) (xs (x3 + (2 : Int32)).toNatClampNeg) v3.2).bind fun v6 =>
  (if v3.1 = v6.1 then
    Lw_1706 N xs k18 x3 v6.2
  else
    some false)
  else none
  else none
  else none
  else none
set_option maxRecDepth 100000 in
set_option maxHeartbeats 4000000 in
theorem t_Lw_1549 {g : GG} {d : Nat} {nm : String} (hd0 : 1000 ≤ d) {k18 : Int32 → Nm → Option Bool} (hk18 : ∀ (x3 : Int32) (ν : Nm), k18 x3 ν = some true → Z g d (600000, 7302250) (mL_law nm) 333 333 262170 18 [(0, .ref 1001), (1, .ref 0), (2, .ref 313), (3, .int x3)] [] (zem ν) (Flaw g)) : ∀ (x3 : Int32) (ν : Nm), Lw_1549 (gN g) (gX g) k18 x3 ν = some true → Z g d (600000, 7302250) (mL_law nm) 333 333 262170 1549 [(0, .ref 1001), (1, .ref 0), (2, .ref 313), (3, .int x3)] [] (zem ν) (Flaw g) := by
  intro x3 ν h
  unfold Lw_1549 at h
  refine z_aload_n dL_law_1549 1 rfl ?_
  refine z_aload_n dL_law_1550 0 rfl ?_
  refine z_iload_n dL_law_1551 3 rfl ?_
  refine z_iconst (M := (mL_law nm)) (v := 1) dL_law_1552 rfl ?_
  refine z_iadd dL_law_1553 ?_
  obtain ⟨hi1, h⟩ := oif h
  refine z_sald dL_law_1554 (inb_vp hi1) ?_
  refine z_aload_n dL_law_1555 0 rfl ?_
  refine z_iload_n dL_law_1556 3 rfl ?_
  refine z_iconst (M := (mL_law nm)) (v := 2) dL_law_1557 rfl ?_
  refine z_iadd dL_law_1558 ?_
  obtain ⟨hi2, h⟩ := oif h
  refine z_sald dL_law_1559 (inb_vp hi2) ?_
  obtain ⟨v3, he3, h⟩ := obind h
  refine yG_Vi (M := (mL_law nm)) (Y := mX11_said) (d2 := d - 1) (As := [.int (gX g (x3 + (1 : Int32)).toNatClampNeg), .int (gX g (x3 + (2 : Int32)).toNatClampNeg)]) (st := []) dL_law_1560 mlRL_183 cv_X11_said zk_0 (ct_Fm_said (dle (Nat.le_of_ble_eq_true rfl) hd0) he3) (dps (Nat.le_of_ble_eq_true rfl) hd0) rfl rfl (Nat.le_of_ble_eq_true rfl) ?_
  refine z_aload_n dL_law_1563 2 rfl ?_
  refine z_aload_n dL_law_1564 0 rfl ?_
  refine z_iload_n dL_law_1565 3 rfl ?_
  refine z_iconst (M := (mL_law nm)) (v := 1) dL_law_1566 rfl ?_
  refine z_iadd dL_law_1567 ?_
  obtain ⟨hi4, h⟩ := oif h
  refine z_sald dL_law_1568 (inb_vp hi4) ?_
  refine z_aload_n dL_law_1569 0 rfl ?_
  refine z_iload_n dL_law_1570 3 rfl ?_
  refine z_iconst (M := (mL_law nm)) (v := 2) dL_law_1571 rfl ?_
  refine z_iadd dL_law_1572 ?_
  obtain ⟨hi5, h⟩ := oif h
  refine z_sald dL_law_1573 (inb_vp hi5) ?_
  obtain ⟨v6, he6, h⟩ := obind h
  refine yG_Vi (M := (mL_law nm)) (Y := mX12_said) (d2 := d - 1) (As := [.int (gX g (x3 + (1 : Int32)).toNatClampNeg), .int (gX g (x3 + (2 : Int32)).toNatClampNeg)]) (st := [.int v3.1]) dL_law_1574 mlRL_186 cv_X12_said zk_313 (ct_Md_said (dle (Nat.le_of_ble_eq_true rfl) hd0) he6) (dps (Nat.le_of_ble_eq_true rfl) hd0) rfl rfl (Nat.le_of_ble_eq_true rfl) ?_
  refine z_icmp_eq 1706 dL_law_1577 rfl (fun hc7 => ?_) (fun hc7 => ?_)
  · replace h := oT hc7 h
    exact t_Lw_1706 hd0 hk18 x3 v6.2 h
  · replace h := oF hc7 h
    refine z_iconst (M := (mL_law nm)) (v := 0) dL_law_1580 rfl ?_
    cases h
def Lw_1582 (N : Nat) (xs : Nat → Int32) (k18 : Int32 → Nm → Option Bool) (x3 : Int32) (ν : Nm) : Option Bool :=
  (Fm_whose ν).bind fun v1 =>
  (Md_whose v1.2).bind fun v2 =>
  (if v1.1 = v2.1 then
    Lw_1706 N xs k18 x3 v2.2
  else
    some false)
set_option maxRecDepth 100000 in
set_option maxHeartbeats 4000000 in
theorem t_Lw_1582 {g : GG} {d : Nat} {nm : String} (hd0 : 1000 ≤ d) {k18 : Int32 → Nm → Option Bool} (hk18 : ∀ (x3 : Int32) (ν : Nm), k18 x3 ν = some true → Z g d (600000, 7302250) (mL_law nm) 333 333 262170 18 [(0, .ref 1001), (1, .ref 0), (2, .ref 313), (3, .int x3)] [] (zem ν) (Flaw g)) : ∀ (x3 : Int32) (ν : Nm), Lw_1582 (gN g) (gX g) k18 x3 ν = some true → Z g d (600000, 7302250) (mL_law nm) 333 333 262170 1582 [(0, .ref 1001), (1, .ref 0), (2, .ref 313), (3, .int x3)] [] (zem ν) (Flaw g) := by
  intro x3 ν h
  unfold Lw_1582 at h
  refine z_aload_n dL_law_1582 1 rfl ?_
  obtain ⟨v1, he1, h⟩ := obind h
  refine yG_Vi (M := (mL_law nm)) (Y := mX11_whose) (d2 := d - 1) (As := []) (st := []) dL_law_1583 mlRL_187 cv_X11_whose zk_0 (ct_Fm_whose (dle (Nat.le_of_ble_eq_true rfl) hd0) he1) (dps (Nat.le_of_ble_eq_true rfl) hd0) rfl rfl (Nat.le_of_ble_eq_true rfl) ?_
  refine z_aload_n dL_law_1586 2 rfl ?_
  obtain ⟨v2, he2, h⟩ := obind h
  refine yG_Vi (M := (mL_law nm)) (Y := mX12_whose) (d2 := d - 1) (As := []) (st := [.int v1.1]) dL_law_1587 mlRL_190 cv_X12_whose zk_313 (ct_Md_whose (dle (Nat.le_of_ble_eq_true rfl) hd0) he2) (dps (Nat.le_of_ble_eq_true rfl) hd0) rfl rfl (Nat.le_of_ble_eq_true rfl) ?_
  refine z_icmp_eq 1706 dL_law_1590 rfl (fun hc3 => ?_) (fun hc3 => ?_)
  · replace h := oT hc3 h
    exact t_Lw_1706 hd0 hk18 x3 v2.2 h
  · replace h := oF hc3 h
    refine z_iconst (M := (mL_law nm)) (v := 0) dL_law_1593 rfl ?_
    cases h
def Lw_1595 (N : Nat) (xs : Nat → Int32) (k18 : Int32 → Nm → Option Bool) (x3 : Int32) (ν : Nm) : Option Bool :=
  (Fm_longest ν).bind fun v1 =>
  (Md_longest ν).bind fun v2 =>
  (if v1 = v2 then
    Lw_1706 N xs k18 x3 ν
  else
    some false)
set_option maxRecDepth 100000 in
set_option maxHeartbeats 4000000 in
theorem t_Lw_1595 {g : GG} {d : Nat} {nm : String} (hd0 : 1000 ≤ d) {k18 : Int32 → Nm → Option Bool} (hk18 : ∀ (x3 : Int32) (ν : Nm), k18 x3 ν = some true → Z g d (600000, 7302250) (mL_law nm) 333 333 262170 18 [(0, .ref 1001), (1, .ref 0), (2, .ref 313), (3, .int x3)] [] (zem ν) (Flaw g)) : ∀ (x3 : Int32) (ν : Nm), Lw_1595 (gN g) (gX g) k18 x3 ν = some true → Z g d (600000, 7302250) (mL_law nm) 333 333 262170 1595 [(0, .ref 1001), (1, .ref 0), (2, .ref 313), (3, .int x3)] [] (zem ν) (Flaw g) := by
  intro x3 ν h
  unfold Lw_1595 at h
  refine z_aload_n dL_law_1595 1 rfl ?_
  obtain ⟨v1, he1, h⟩ := obind h
  refine yG_Vi (M := (mL_law nm)) (Y := mX11_longest) (d2 := d - 1) (As := []) (st := []) dL_law_1596 mlRL_191 cv_X11_longest zk_0 (ct_Fm_longest (dle (Nat.le_of_ble_eq_true rfl) hd0) he1) (dps (Nat.le_of_ble_eq_true rfl) hd0) rfl rfl (Nat.le_of_ble_eq_true rfl) ?_
  refine z_aload_n dL_law_1599 2 rfl ?_
  obtain ⟨v2, he2, h⟩ := obind h
  refine yG_Vi (M := (mL_law nm)) (Y := mX12_longest) (d2 := d - 1) (As := []) (st := [.int v1]) dL_law_1600 mlRL_194 cv_X12_longest zk_313 (ct_Md_longest (dle (Nat.le_of_ble_eq_true rfl) hd0) he2) (dps (Nat.le_of_ble_eq_true rfl) hd0) rfl rfl (Nat.le_of_ble_eq_true rfl) ?_
  refine z_icmp_eq 1706 dL_law_1603 rfl (fun hc3 => ?_) (fun hc3 => ?_)
  · replace h := oT hc3 h
    exact t_Lw_1706 hd0 hk18 x3 ν h
  · replace h := oF hc3 h
    refine z_iconst (M := (mL_law nm)) (v := 0) dL_law_1606 rfl ?_
    cases h
def Lw_1608 (N : Nat) (xs : Nat → Int32) (k18 : Int32 → Nm → Option Bool) (x3 : Int32) (ν : Nm) : Option Bool :=
  (Fm_burning ν).bind fun v1 =>
  (Md_burning ν).bind fun v2 =>
  (if v1 = v2 then
    Lw_1706 N xs k18 x3 ν
  else
    some false)
set_option maxRecDepth 100000 in
set_option maxHeartbeats 4000000 in
theorem t_Lw_1608 {g : GG} {d : Nat} {nm : String} (hd0 : 1000 ≤ d) {k18 : Int32 → Nm → Option Bool} (hk18 : ∀ (x3 : Int32) (ν : Nm), k18 x3 ν = some true → Z g d (600000, 7302250) (mL_law nm) 333 333 262170 18 [(0, .ref 1001), (1, .ref 0), (2, .ref 313), (3, .int x3)] [] (zem ν) (Flaw g)) : ∀ (x3 : Int32) (ν : Nm), Lw_1608 (gN g) (gX g) k18 x3 ν = some true → Z g d (600000, 7302250) (mL_law nm) 333 333 262170 1608 [(0, .ref 1001), (1, .ref 0), (2, .ref 313), (3, .int x3)] [] (zem ν) (Flaw g) := by
  intro x3 ν h
  unfold Lw_1608 at h
  refine z_aload_n dL_law_1608 1 rfl ?_
  obtain ⟨v1, he1, h⟩ := obind h
  refine yG_Vi (M := (mL_law nm)) (Y := mX11_burning) (d2 := d - 1) (As := []) (st := []) dL_law_1609 mlRL_195 cv_X11_burning zk_0 (ct_Fm_burning (dle (Nat.le_of_ble_eq_true rfl) hd0) he1) (dps (Nat.le_of_ble_eq_true rfl) hd0) rfl rfl (Nat.le_of_ble_eq_true rfl) ?_
  refine z_aload_n dL_law_1612 2 rfl ?_
  obtain ⟨v2, he2, h⟩ := obind h
  refine yG_Vi (M := (mL_law nm)) (Y := mX12_burning) (d2 := d - 1) (As := []) (st := [.int v1]) dL_law_1613 mlRL_198 cv_X12_burning zk_313 (ct_Md_burning (dle (Nat.le_of_ble_eq_true rfl) hd0) he2) (dps (Nat.le_of_ble_eq_true rfl) hd0) rfl rfl (Nat.le_of_ble_eq_true rfl) ?_
  refine z_icmp_eq 1706 dL_law_1616 rfl (fun hc3 => ?_) (fun hc3 => ?_)
  · replace h := oT hc3 h
    exact t_Lw_1706 hd0 hk18 x3 ν h
  · replace h := oF hc3 h
    refine z_iconst (M := (mL_law nm)) (v := 0) dL_law_1619 rfl ?_
    cases h
def Lw_1621 (N : Nat) (xs : Nat → Int32) (k18 : Int32 → Nm → Option Bool) (x3 : Int32) (ν : Nm) : Option Bool :=
  (Fm_dead ν).bind fun v1 =>
  (Md_dead ν).bind fun v2 =>
  (if v1 = v2 then
    Lw_1706 N xs k18 x3 ν
  else
    some false)
set_option maxRecDepth 100000 in
set_option maxHeartbeats 4000000 in
theorem t_Lw_1621 {g : GG} {d : Nat} {nm : String} (hd0 : 1000 ≤ d) {k18 : Int32 → Nm → Option Bool} (hk18 : ∀ (x3 : Int32) (ν : Nm), k18 x3 ν = some true → Z g d (600000, 7302250) (mL_law nm) 333 333 262170 18 [(0, .ref 1001), (1, .ref 0), (2, .ref 313), (3, .int x3)] [] (zem ν) (Flaw g)) : ∀ (x3 : Int32) (ν : Nm), Lw_1621 (gN g) (gX g) k18 x3 ν = some true → Z g d (600000, 7302250) (mL_law nm) 333 333 262170 1621 [(0, .ref 1001), (1, .ref 0), (2, .ref 313), (3, .int x3)] [] (zem ν) (Flaw g) := by
  intro x3 ν h
  unfold Lw_1621 at h
  refine z_aload_n dL_law_1621 1 rfl ?_
  obtain ⟨v1, he1, h⟩ := obind h
  refine yG_Vi (M := (mL_law nm)) (Y := mX11_dead) (d2 := d - 1) (As := []) (st := []) dL_law_1622 mlRL_199 cv_X11_dead zk_0 (ct_Fm_dead (dle (Nat.le_of_ble_eq_true rfl) hd0) he1) (dps (Nat.le_of_ble_eq_true rfl) hd0) rfl rfl (Nat.le_of_ble_eq_true rfl) ?_
  refine z_aload_n dL_law_1625 2 rfl ?_
  obtain ⟨v2, he2, h⟩ := obind h
  refine yG_Vi (M := (mL_law nm)) (Y := mX12_dead) (d2 := d - 1) (As := []) (st := [.int v1]) dL_law_1626 mlRL_202 cv_X12_dead zk_313 (ct_Md_dead (dle (Nat.le_of_ble_eq_true rfl) hd0) he2) (dps (Nat.le_of_ble_eq_true rfl) hd0) rfl rfl (Nat.le_of_ble_eq_true rfl) ?_
  refine z_icmp_eq 1706 dL_law_1629 rfl (fun hc3 => ?_) (fun hc3 => ?_)
  · replace h := oT hc3 h
    exact t_Lw_1706 hd0 hk18 x3 ν h
  · replace h := oF hc3 h
    refine z_iconst (M := (mL_law nm)) (v := 0) dL_law_1632 rfl ?_
    cases h
def Lw_1634 (N : Nat) (xs : Nat → Int32) (k18 : Int32 → Nm → Option Bool) (x3 : Int32) (ν : Nm) : Option Bool :=
  if inb (x3 + (1 : Int32)) N then
  (Fm_ledger ν (xs (x3 + (1 : Int32)).toNatClampNeg)).bind fun v2 =>
  if inb (x3 + (1 : Int32)) N then
  (Md_ledger ν (xs (x3 + (1 : Int32)).toNatClampNeg)).bind fun v4 =>
  (if v2 = v4 then
    Lw_1706 N xs k18 x3 ν
  else
    some false)
  else none
  else none
set_option maxRecDepth 100000 in
set_option maxHeartbeats 4000000 in
theorem t_Lw_1634 {g : GG} {d : Nat} {nm : String} (hd0 : 1000 ≤ d) {k18 : Int32 → Nm → Option Bool} (hk18 : ∀ (x3 : Int32) (ν : Nm), k18 x3 ν = some true → Z g d (600000, 7302250) (mL_law nm) 333 333 262170 18 [(0, .ref 1001), (1, .ref 0), (2, .ref 313), (3, .int x3)] [] (zem ν) (Flaw g)) : ∀ (x3 : Int32) (ν : Nm), Lw_1634 (gN g) (gX g) k18 x3 ν = some true → Z g d (600000, 7302250) (mL_law nm) 333 333 262170 1634 [(0, .ref 1001), (1, .ref 0), (2, .ref 313), (3, .int x3)] [] (zem ν) (Flaw g) := by
  intro x3 ν h
  unfold Lw_1634 at h
  refine z_aload_n dL_law_1634 1 rfl ?_
  refine z_aload_n dL_law_1635 0 rfl ?_
  refine z_iload_n dL_law_1636 3 rfl ?_
  refine z_iconst (M := (mL_law nm)) (v := 1) dL_law_1637 rfl ?_
  refine z_iadd dL_law_1638 ?_
  obtain ⟨hi1, h⟩ := oif h
  refine z_sald dL_law_1639 (inb_vp hi1) ?_
  obtain ⟨v2, he2, h⟩ := obind h
  refine yG_Vi (M := (mL_law nm)) (Y := mX11_ledger) (d2 := d - 1) (As := [.int (gX g (x3 + (1 : Int32)).toNatClampNeg)]) (st := []) dL_law_1640 mlRL_203 cv_X11_ledger zk_0 (ct_Fm_ledger (dle (Nat.le_of_ble_eq_true rfl) hd0) he2) (dps (Nat.le_of_ble_eq_true rfl) hd0) rfl rfl (Nat.le_of_ble_eq_true rfl) ?_
  refine z_aload_n dL_law_1643 2 rfl ?_
  refine z_aload_n dL_law_1644 0 rfl ?_
  refine z_iload_n dL_law_1645 3 rfl ?_
  refine z_iconst (M := (mL_law nm)) (v := 1) dL_law_1646 rfl ?_
  refine z_iadd dL_law_1647 ?_
  obtain ⟨hi3, h⟩ := oif h
  refine z_sald dL_law_1648 (inb_vp hi3) ?_
  obtain ⟨v4, he4, h⟩ := obind h
  refine yG_Vi (M := (mL_law nm)) (Y := mX12_ledger) (d2 := d - 1) (As := [.int (gX g (x3 + (1 : Int32)).toNatClampNeg)]) (st := [.int v2]) dL_law_1649 mlRL_206 cv_X12_ledger zk_313 (ct_Md_ledger (dle (Nat.le_of_ble_eq_true rfl) hd0) he4) (dps (Nat.le_of_ble_eq_true rfl) hd0) rfl rfl (Nat.le_of_ble_eq_true rfl) ?_
  refine z_icmp_eq 1706 dL_law_1652 rfl (fun hc5 => ?_) (fun hc5 => ?_)
  · replace h := oT hc5 h
    exact t_Lw_1706 hd0 hk18 x3 ν h
  · replace h := oF hc5 h
    refine z_iconst (M := (mL_law nm)) (v := 0) dL_law_1655 rfl ?_
    cases h
def Lw_1657 (N : Nat) (xs : Nat → Int32) (k18 : Int32 → Nm → Option Bool) (x3 : Int32) (ν : Nm) : Option Bool :=
  (Fm_image ν).bind fun v1 =>
  (Md_image v1.2).bind fun v2 =>
  (if v1.1 = v2.1 then
    Lw_1706 N xs k18 x3 v2.2
  else
    some false)
set_option maxRecDepth 100000 in
set_option maxHeartbeats 4000000 in
theorem t_Lw_1657 {g : GG} {d : Nat} {nm : String} (hd0 : 1000 ≤ d) {k18 : Int32 → Nm → Option Bool} (hk18 : ∀ (x3 : Int32) (ν : Nm), k18 x3 ν = some true → Z g d (600000, 7302250) (mL_law nm) 333 333 262170 18 [(0, .ref 1001), (1, .ref 0), (2, .ref 313), (3, .int x3)] [] (zem ν) (Flaw g)) : ∀ (x3 : Int32) (ν : Nm), Lw_1657 (gN g) (gX g) k18 x3 ν = some true → Z g d (600000, 7302250) (mL_law nm) 333 333 262170 1657 [(0, .ref 1001), (1, .ref 0), (2, .ref 313), (3, .int x3)] [] (zem ν) (Flaw g) := by
  intro x3 ν h
  unfold Lw_1657 at h
  refine z_aload_n dL_law_1657 1 rfl ?_
  obtain ⟨v1, he1, h⟩ := obind h
  refine yG_Vi (M := (mL_law nm)) (Y := mX11_image) (d2 := d - 1) (As := []) (st := []) dL_law_1658 mlRL_207 cv_X11_image zk_0 (ct_Fm_image (dle (Nat.le_of_ble_eq_true rfl) hd0) he1) (dps (Nat.le_of_ble_eq_true rfl) hd0) rfl rfl (Nat.le_of_ble_eq_true rfl) ?_
  refine z_aload_n dL_law_1661 2 rfl ?_
  obtain ⟨v2, he2, h⟩ := obind h
  refine yG_Vi (M := (mL_law nm)) (Y := mX12_image) (d2 := d - 1) (As := []) (st := [.int v1.1]) dL_law_1662 mlRL_210 cv_X12_image zk_313 (ct_Md_image (dle (Nat.le_of_ble_eq_true rfl) hd0) he2) (dps (Nat.le_of_ble_eq_true rfl) hd0) rfl rfl (Nat.le_of_ble_eq_true rfl) ?_
  refine z_icmp_eq 1706 dL_law_1665 rfl (fun hc3 => ?_) (fun hc3 => ?_)
  · replace h := oT hc3 h
    exact t_Lw_1706 hd0 hk18 x3 v2.2 h
  · replace h := oF hc3 h
    refine z_iconst (M := (mL_law nm)) (v := 0) dL_law_1668 rfl ?_
    cases h
def Lw_1670 (N : Nat) (xs : Nat → Int32) (k18 : Int32 → Nm → Option Bool) (x3 : Int32) (ν : Nm) : Option Bool :=
  (Fm_back ν).bind fun v1 =>
  (Md_back v1.2).bind fun v2 =>
  (if v1.1 = v2.1 then
    Lw_1706 N xs k18 x3 v2.2
  else
    some false)
set_option maxRecDepth 100000 in
set_option maxHeartbeats 4000000 in
theorem t_Lw_1670 {g : GG} {d : Nat} {nm : String} (hd0 : 1000 ≤ d) {k18 : Int32 → Nm → Option Bool} (hk18 : ∀ (x3 : Int32) (ν : Nm), k18 x3 ν = some true → Z g d (600000, 7302250) (mL_law nm) 333 333 262170 18 [(0, .ref 1001), (1, .ref 0), (2, .ref 313), (3, .int x3)] [] (zem ν) (Flaw g)) : ∀ (x3 : Int32) (ν : Nm), Lw_1670 (gN g) (gX g) k18 x3 ν = some true → Z g d (600000, 7302250) (mL_law nm) 333 333 262170 1670 [(0, .ref 1001), (1, .ref 0), (2, .ref 313), (3, .int x3)] [] (zem ν) (Flaw g) := by
  intro x3 ν h
  unfold Lw_1670 at h
  refine z_aload_n dL_law_1670 1 rfl ?_
  obtain ⟨v1, he1, h⟩ := obind h
  refine yG_Vi (M := (mL_law nm)) (Y := mX11_back) (d2 := d - 1) (As := []) (st := []) dL_law_1671 mlRL_211 cv_X11_back zk_0 (ct_Fm_back (dle (Nat.le_of_ble_eq_true rfl) hd0) he1) (dps (Nat.le_of_ble_eq_true rfl) hd0) rfl rfl (Nat.le_of_ble_eq_true rfl) ?_
  refine z_aload_n dL_law_1674 2 rfl ?_
  obtain ⟨v2, he2, h⟩ := obind h
  refine yG_Vi (M := (mL_law nm)) (Y := mX12_back) (d2 := d - 1) (As := []) (st := [.int v1.1]) dL_law_1675 mlRL_214 cv_X12_back zk_313 (ct_Md_back (dle (Nat.le_of_ble_eq_true rfl) hd0) he2) (dps (Nat.le_of_ble_eq_true rfl) hd0) rfl rfl (Nat.le_of_ble_eq_true rfl) ?_
  refine z_icmp_eq 1706 dL_law_1678 rfl (fun hc3 => ?_) (fun hc3 => ?_)
  · replace h := oT hc3 h
    exact t_Lw_1706 hd0 hk18 x3 v2.2 h
  · replace h := oF hc3 h
    refine z_iconst (M := (mL_law nm)) (v := 0) dL_law_1681 rfl ?_
    cases h
def Lw_1683 (N : Nat) (xs : Nat → Int32) (k18 : Int32 → Nm → Option Bool) (x3 : Int32) (ν : Nm) : Option Bool :=
  if inb (x3 + (1 : Int32)) N then
  (Fm_about ν (xs (x3 + (1 : Int32)).toNatClampNeg)).bind fun v2 =>
  if inb (x3 + (1 : Int32)) N then
  (Md_about ν (xs (x3 + (1 : Int32)).toNatClampNeg)).bind fun v4 =>
  (if v2 = v4 then
    Lw_1706 N xs k18 x3 ν
  else
    some false)
  else none
  else none
set_option maxRecDepth 100000 in
set_option maxHeartbeats 4000000 in
theorem t_Lw_1683 {g : GG} {d : Nat} {nm : String} (hd0 : 1000 ≤ d) {k18 : Int32 → Nm → Option Bool} (hk18 : ∀ (x3 : Int32) (ν : Nm), k18 x3 ν = some true → Z g d (600000, 7302250) (mL_law nm) 333 333 262170 18 [(0, .ref 1001), (1, .ref 0), (2, .ref 313), (3, .int x3)] [] (zem ν) (Flaw g)) : ∀ (x3 : Int32) (ν : Nm), Lw_1683 (gN g) (gX g) k18 x3 ν = some true → Z g d (600000, 7302250) (mL_law nm) 333 333 262170 1683 [(0, .ref 1001), (1, .ref 0), (2, .ref 313), (3, .int x3)] [] (zem ν) (Flaw g) := by
  intro x3 ν h
  unfold Lw_1683 at h
  refine z_aload_n dL_law_1683 1 rfl ?_
  refine z_aload_n dL_law_1684 0 rfl ?_
  refine z_iload_n dL_law_1685 3 rfl ?_
  refine z_iconst (M := (mL_law nm)) (v := 1) dL_law_1686 rfl ?_
  refine z_iadd dL_law_1687 ?_
  obtain ⟨hi1, h⟩ := oif h
  refine z_sald dL_law_1688 (inb_vp hi1) ?_
  obtain ⟨v2, he2, h⟩ := obind h
  refine yG_Vi (M := (mL_law nm)) (Y := mX11_about) (d2 := d - 1) (As := [.int (gX g (x3 + (1 : Int32)).toNatClampNeg)]) (st := []) dL_law_1689 mlRL_215 cv_X11_about zk_0 (ct_Fm_about (dle (Nat.le_of_ble_eq_true rfl) hd0) he2) (dps (Nat.le_of_ble_eq_true rfl) hd0) rfl rfl (Nat.le_of_ble_eq_true rfl) ?_
  refine z_aload_n dL_law_1692 2 rfl ?_
  refine z_aload_n dL_law_1693 0 rfl ?_
  refine z_iload_n dL_law_1694 3 rfl ?_
  refine z_iconst (M := (mL_law nm)) (v := 1) dL_law_1695 rfl ?_
  refine z_iadd dL_law_1696 ?_
  obtain ⟨hi3, h⟩ := oif h
  refine z_sald dL_law_1697 (inb_vp hi3) ?_
  obtain ⟨v4, he4, h⟩ := obind h
  refine yG_Vi (M := (mL_law nm)) (Y := mX12_about) (d2 := d - 1) (As := [.int (gX g (x3 + (1 : Int32)).toNatClampNeg)]) (st := [.int v2]) dL_law_1698 mlRL_218 cv_X12_about zk_313 (ct_Md_about (dle (Nat.le_of_ble_eq_true rfl) hd0) he4) (dps (Nat.le_of_ble_eq_true rfl) hd0) rfl rfl (Nat.le_of_ble_eq_true rfl) ?_
  refine z_icmp_eq 1706 dL_law_1701 rfl (fun hc5 => ?_) (fun hc5 => ?_)
  · replace h := oT hc5 h
    exact t_Lw_1706 hd0 hk18 x3 ν h
  · replace h := oF hc5 h
    refine z_iconst (M := (mL_law nm)) (v := 0) dL_law_1704 rfl ?_
    cases h
def Lw_18 (N : Nat) (xs : Nat → Int32) : Nat → Int32 → Nm → Option Bool
  | 0, _, _ => none
  | f + 1, x3, ν =>
    (if ((Int32.ofNat N) - (6 : Int32)) < x3 then
      some true
    else
      if inb x3 N then
      (if ((xs x3.toNatClampNeg) &&& (63 : Int32)) = (0 : Int32) then
        Lw_240 N xs (Lw_18 N xs f) x3 ν
      else
      (if ((xs x3.toNatClampNeg) &&& (63 : Int32)) = (1 : Int32) then
        Lw_273 N xs (Lw_18 N xs f) x3 ν
      else
      (if ((xs x3.toNatClampNeg) &&& (63 : Int32)) = (2 : Int32) then
        Lw_296 N xs (Lw_18 N xs f) x3 ν
      else
      (if ((xs x3.toNatClampNeg) &&& (63 : Int32)) = (3 : Int32) then
        Lw_359 N xs (Lw_18 N xs f) x3 ν
      else
      (if ((xs x3.toNatClampNeg) &&& (63 : Int32)) = (4 : Int32) then
        Lw_382 N xs (Lw_18 N xs f) x3 ν
      else
      (if ((xs x3.toNatClampNeg) &&& (63 : Int32)) = (5 : Int32) then
        Lw_395 N xs (Lw_18 N xs f) x3 ν
      else
      (if ((xs x3.toNatClampNeg) &&& (63 : Int32)) = (6 : Int32) then
        Lw_418 N xs (Lw_18 N xs f) x3 ν
      else
      (if ((xs x3.toNatClampNeg) &&& (63 : Int32)) = (7 : Int32) then
        Lw_441 N xs (Lw_18 N xs f) x3 ν
      else
      (if ((xs x3.toNatClampNeg) &&& (63 : Int32)) = (8 : Int32) then
        Lw_490 N xs (Lw_18 N xs f) x3 ν
      else
      (if ((xs x3.toNatClampNeg) &&& (63 : Int32)) = (9 : Int32) then
        Lw_539 N xs (Lw_18 N xs f) x3 ν
      else
      (if ((xs x3.toNatClampNeg) &&& (63 : Int32)) = (10 : Int32) then
        Lw_562 N xs (Lw_18 N xs f) x3 ν
      else
      (if ((xs x3.toNatClampNeg) &&& (63 : Int32)) = (11 : Int32) then
        Lw_575 N xs (Lw_18 N xs f) x3 ν
      else
      (if ((xs x3.toNatClampNeg) &&& (63 : Int32)) = (12 : Int32) then
        Lw_598 N xs (Lw_18 N xs f) x3 ν
      else
      (if ((xs x3.toNatClampNeg) &&& (63 : Int32)) = (13 : Int32) then
        Lw_621 N xs (Lw_18 N xs f) x3 ν
      else
      (if ((xs x3.toNatClampNeg) &&& (63 : Int32)) = (14 : Int32) then
        Lw_654 N xs (Lw_18 N xs f) x3 ν
      else
      (if ((xs x3.toNatClampNeg) &&& (63 : Int32)) = (15 : Int32) then
        Lw_667 N xs (Lw_18 N xs f) x3 ν
      else
      (if ((xs x3.toNatClampNeg) &&& (63 : Int32)) = (16 : Int32) then
        Lw_700 N xs (Lw_18 N xs f) x3 ν
      else
      (if ((xs x3.toNatClampNeg) &&& (63 : Int32)) = (17 : Int32) then
        Lw_775 N xs (Lw_18 N xs f) x3 ν
      else
      (if ((xs x3.toNatClampNeg) &&& (63 : Int32)) = (18 : Int32) then
        Lw_798 N xs (Lw_18 N xs f) x3 ν
      else
      (if ((xs x3.toNatClampNeg) &&& (63 : Int32)) = (19 : Int32) then
        Lw_831 N xs (Lw_18 N xs f) x3 ν
      else
      (if ((xs x3.toNatClampNeg) &&& (63 : Int32)) = (20 : Int32) then
        Lw_864 N xs (Lw_18 N xs f) x3 ν
      else
      (if ((xs x3.toNatClampNeg) &&& (63 : Int32)) = (21 : Int32) then
        Lw_887 N xs (Lw_18 N xs f) x3 ν
      else
      (if ((xs x3.toNatClampNeg) &&& (63 : Int32)) = (22 : Int32) then
        Lw_920 N xs (Lw_18 N xs f) x3 ν
      else
      (if ((xs x3.toNatClampNeg) &&& (63 : Int32)) = (23 : Int32) then
        Lw_953 N xs (Lw_18 N xs f) x3 ν
      else
      (if ((xs x3.toNatClampNeg) &&& (63 : Int32)) = (24 : Int32) then
        Lw_976 N xs (Lw_18 N xs f) x3 ν
      else
      (if ((xs x3.toNatClampNeg) &&& (63 : Int32)) = (25 : Int32) then
        Lw_999 N xs (Lw_18 N xs f) x3 ν
      else
      (if ((xs x3.toNatClampNeg) &&& (63 : Int32)) = (26 : Int32) then
        Lw_1042 N xs (Lw_18 N xs f) x3 ν
      else
      (if ((xs x3.toNatClampNeg) &&& (63 : Int32)) = (27 : Int32) then
        Lw_1101 N xs (Lw_18 N xs f) x3 ν
      else
      (if ((xs x3.toNatClampNeg) &&& (63 : Int32)) = (28 : Int32) then
        Lw_1134 N xs (Lw_18 N xs f) x3 ν
      else
      (if ((xs x3.toNatClampNeg) &&& (63 : Int32)) = (29 : Int32) then
        Lw_1157 N xs (Lw_18 N xs f) x3 ν
      else
      (if ((xs x3.toNatClampNeg) &&& (63 : Int32)) = (30 : Int32) then
        Lw_1196 N xs (Lw_18 N xs f) x3 ν
      else
      (if ((xs x3.toNatClampNeg) &&& (63 : Int32)) = (31 : Int32) then
        Lw_1219 N xs (Lw_18 N xs f) x3 ν
      else
      (if ((xs x3.toNatClampNeg) &&& (63 : Int32)) = (32 : Int32) then
        Lw_1252 N xs (Lw_18 N xs f) x3 ν
      else
      (if ((xs x3.toNatClampNeg) &&& (63 : Int32)) = (33 : Int32) then
        Lw_1285 N xs (Lw_18 N xs f) x3 ν
      else
      (if ((xs x3.toNatClampNeg) &&& (63 : Int32)) = (34 : Int32) then
        Lw_1334 N xs (Lw_18 N xs f) x3 ν
      else
      (if ((xs x3.toNatClampNeg) &&& (63 : Int32)) = (35 : Int32) then
        Lw_1383 N xs (Lw_18 N xs f) x3 ν
      else
      (if ((xs x3.toNatClampNeg) &&& (63 : Int32)) = (36 : Int32) then
        Lw_1406 N xs (Lw_18 N xs f) x3 ν
      else
      (if ((xs x3.toNatClampNeg) &&& (63 : Int32)) = (37 : Int32) then
        Lw_1419 N xs (Lw_18 N xs f) x3 ν
      else
      (if ((xs x3.toNatClampNeg) &&& (63 : Int32)) = (38 : Int32) then
        Lw_1479 N xs (Lw_18 N xs f) x3 ν
      else
      (if ((xs x3.toNatClampNeg) &&& (63 : Int32)) = (39 : Int32) then
        Lw_1549 N xs (Lw_18 N xs f) x3 ν
      else
      (if ((xs x3.toNatClampNeg) &&& (63 : Int32)) = (40 : Int32) then
        Lw_1582 N xs (Lw_18 N xs f) x3 ν
      else
      (if ((xs x3.toNatClampNeg) &&& (63 : Int32)) = (41 : Int32) then
        Lw_1595 N xs (Lw_18 N xs f) x3 ν
      else
      (if ((xs x3.toNatClampNeg) &&& (63 : Int32)) = (42 : Int32) then
        Lw_1608 N xs (Lw_18 N xs f) x3 ν
      else
      (if ((xs x3.toNatClampNeg) &&& (63 : Int32)) = (43 : Int32) then
        Lw_1621 N xs (Lw_18 N xs f) x3 ν
      else
      (if ((xs x3.toNatClampNeg) &&& (63 : Int32)) = (44 : Int32) then
        Lw_1634 N xs (Lw_18 N xs f) x3 ν
      else
      (if ((xs x3.toNatClampNeg) &&& (63 : Int32)) = (45 : Int32) then
        Lw_1657 N xs (Lw_18 N xs f) x3 ν
      else
      (if ((xs x3.toNatClampNeg) &&& (63 : Int32)) = (46 : Int32) then
        Lw_1670 N xs (Lw_18 N xs f) x3 ν
      else
      (if ((xs x3.toNatClampNeg) &&& (63 : Int32)) = (47 : Int32) then
        Lw_1683 N xs (Lw_18 N xs f) x3 ν
      else
        Lw_1706 N xs (Lw_18 N xs f) x3 ν))))))))))))))))))))))))))))))))))))))))))))))))
      else none)
set_option maxRecDepth 100000 in
set_option maxHeartbeats 4000000 in
theorem t_Lw_18 {g : GG} {d : Nat} {nm : String} (hd0 : 1000 ≤ d) : ∀ (f : Nat), ∀ (x3 : Int32) (ν : Nm), Lw_18 (gN g) (gX g) f x3 ν = some true → Z g d (600000, 7302250) (mL_law nm) 333 333 262170 18 [(0, .ref 1001), (1, .ref 0), (2, .ref 313), (3, .int x3)] [] (zem ν) (Flaw g) := by
  intro f
  induction f with
  | zero =>
    intro x3 ν h
    cases h
  | succ f ih =>
    intro x3 ν h
    rw [Lw_18] at h
    refine z_iload_n dL_law_18 3 rfl ?_
    refine z_aload_n dL_law_19 0 rfl ?_
    refine z_slen dL_law_20 ?_
    refine z_bipush (M := (mL_law nm)) (v := 6) dL_law_21 rfl ?_
    refine z_isub dL_law_23 ?_
    refine z_icmp_gt 1712 dL_law_24 rfl (fun hc1 => ?_) (fun hc1 => ?_)
    · replace h := oT hc1 h
      refine z_iconst (M := (mL_law nm)) (v := 1) dL_law_1712 rfl ?_
      exact z_law1 dL_law_1713
    · replace h := oF hc1 h
      refine z_aload_n dL_law_27 0 rfl ?_
      refine z_iload_n dL_law_28 3 rfl ?_
      obtain ⟨hi2, h⟩ := oif h
      refine z_sald dL_law_29 (inb_vp hi2) ?_
      refine z_bipush (M := (mL_law nm)) (v := 63) dL_law_30 rfl ?_
      refine z_iand dL_law_32 ?_
      by_cases hc3 : ((gX g x3.toNatClampNeg) &&& (63 : Int32)) = (0 : Int32)
      · replace h := oT hc3 h
        refine yG_sw (0 : Int32) (0) 240 dL_law_33 hc3 rfl (by decide) (by decide) rfl rfl ?_
        exact t_Lw_240 hd0 ih x3 ν h
      replace h := oF hc3 h
      by_cases hc4 : ((gX g x3.toNatClampNeg) &&& (63 : Int32)) = (1 : Int32)
      · replace h := oT hc4 h
        refine yG_sw (1 : Int32) (1) 273 dL_law_33 hc4 rfl (by decide) (by decide) rfl rfl ?_
        exact t_Lw_273 hd0 ih x3 ν h
      replace h := oF hc4 h
      by_cases hc5 : ((gX g x3.toNatClampNeg) &&& (63 : Int32)) = (2 : Int32)
      · replace h := oT hc5 h
        refine yG_sw (2 : Int32) (2) 296 dL_law_33 hc5 rfl (by decide) (by decide) rfl rfl ?_
        exact t_Lw_296 hd0 ih x3 ν h
      replace h := oF hc5 h
      by_cases hc6 : ((gX g x3.toNatClampNeg) &&& (63 : Int32)) = (3 : Int32)
      · replace h := oT hc6 h
        refine yG_sw (3 : Int32) (3) 359 dL_law_33 hc6 rfl (by decide) (by decide) rfl rfl ?_
        exact t_Lw_359 hd0 ih x3 ν h
      replace h := oF hc6 h
      by_cases hc7 : ((gX g x3.toNatClampNeg) &&& (63 : Int32)) = (4 : Int32)
      · replace h := oT hc7 h
        refine yG_sw (4 : Int32) (4) 382 dL_law_33 hc7 rfl (by decide) (by decide) rfl rfl ?_
        exact t_Lw_382 hd0 ih x3 ν h
      replace h := oF hc7 h
      by_cases hc8 : ((gX g x3.toNatClampNeg) &&& (63 : Int32)) = (5 : Int32)
      · replace h := oT hc8 h
        refine yG_sw (5 : Int32) (5) 395 dL_law_33 hc8 rfl (by decide) (by decide) rfl rfl ?_
        exact t_Lw_395 hd0 ih x3 ν h
      replace h := oF hc8 h
      by_cases hc9 : ((gX g x3.toNatClampNeg) &&& (63 : Int32)) = (6 : Int32)
      · replace h := oT hc9 h
        refine yG_sw (6 : Int32) (6) 418 dL_law_33 hc9 rfl (by decide) (by decide) rfl rfl ?_
        exact t_Lw_418 hd0 ih x3 ν h
      replace h := oF hc9 h
      by_cases hc10 : ((gX g x3.toNatClampNeg) &&& (63 : Int32)) = (7 : Int32)
      · replace h := oT hc10 h
        refine yG_sw (7 : Int32) (7) 441 dL_law_33 hc10 rfl (by decide) (by decide) rfl rfl ?_
        exact t_Lw_441 hd0 ih x3 ν h
      replace h := oF hc10 h
      by_cases hc11 : ((gX g x3.toNatClampNeg) &&& (63 : Int32)) = (8 : Int32)
      · replace h := oT hc11 h
        refine yG_sw (8 : Int32) (8) 490 dL_law_33 hc11 rfl (by decide) (by decide) rfl rfl ?_
        exact t_Lw_490 hd0 ih x3 ν h
      replace h := oF hc11 h
      by_cases hc12 : ((gX g x3.toNatClampNeg) &&& (63 : Int32)) = (9 : Int32)
      · replace h := oT hc12 h
        refine yG_sw (9 : Int32) (9) 539 dL_law_33 hc12 rfl (by decide) (by decide) rfl rfl ?_
        exact t_Lw_539 hd0 ih x3 ν h
      replace h := oF hc12 h
      by_cases hc13 : ((gX g x3.toNatClampNeg) &&& (63 : Int32)) = (10 : Int32)
      · replace h := oT hc13 h
        refine yG_sw (10 : Int32) (10) 562 dL_law_33 hc13 rfl (by decide) (by decide) rfl rfl ?_
        exact t_Lw_562 hd0 ih x3 ν h
      replace h := oF hc13 h
      by_cases hc14 : ((gX g x3.toNatClampNeg) &&& (63 : Int32)) = (11 : Int32)
      · replace h := oT hc14 h
        refine yG_sw (11 : Int32) (11) 575 dL_law_33 hc14 rfl (by decide) (by decide) rfl rfl ?_
        exact t_Lw_575 hd0 ih x3 ν h
      replace h := oF hc14 h
      by_cases hc15 : ((gX g x3.toNatClampNeg) &&& (63 : Int32)) = (12 : Int32)
      · replace h := oT hc15 h
        refine yG_sw (12 : Int32) (12) 598 dL_law_33 hc15 rfl (by decide) (by decide) rfl rfl ?_
        exact t_Lw_598 hd0 ih x3 ν h
      replace h := oF hc15 h
      by_cases hc16 : ((gX g x3.toNatClampNeg) &&& (63 : Int32)) = (13 : Int32)
      · replace h := oT hc16 h
        refine yG_sw (13 : Int32) (13) 621 dL_law_33 hc16 rfl (by decide) (by decide) rfl rfl ?_
        exact t_Lw_621 hd0 ih x3 ν h
      replace h := oF hc16 h
      by_cases hc17 : ((gX g x3.toNatClampNeg) &&& (63 : Int32)) = (14 : Int32)
      · replace h := oT hc17 h
        refine yG_sw (14 : Int32) (14) 654 dL_law_33 hc17 rfl (by decide) (by decide) rfl rfl ?_
        exact t_Lw_654 hd0 ih x3 ν h
      replace h := oF hc17 h
      by_cases hc18 : ((gX g x3.toNatClampNeg) &&& (63 : Int32)) = (15 : Int32)
      · replace h := oT hc18 h
        refine yG_sw (15 : Int32) (15) 667 dL_law_33 hc18 rfl (by decide) (by decide) rfl rfl ?_
        exact t_Lw_667 hd0 ih x3 ν h
      replace h := oF hc18 h
      by_cases hc19 : ((gX g x3.toNatClampNeg) &&& (63 : Int32)) = (16 : Int32)
      · replace h := oT hc19 h
        refine yG_sw (16 : Int32) (16) 700 dL_law_33 hc19 rfl (by decide) (by decide) rfl rfl ?_
        exact t_Lw_700 hd0 ih x3 ν h
      replace h := oF hc19 h
      by_cases hc20 : ((gX g x3.toNatClampNeg) &&& (63 : Int32)) = (17 : Int32)
      · replace h := oT hc20 h
        refine yG_sw (17 : Int32) (17) 775 dL_law_33 hc20 rfl (by decide) (by decide) rfl rfl ?_
        exact t_Lw_775 hd0 ih x3 ν h
      replace h := oF hc20 h
      by_cases hc21 : ((gX g x3.toNatClampNeg) &&& (63 : Int32)) = (18 : Int32)
      · replace h := oT hc21 h
        refine yG_sw (18 : Int32) (18) 798 dL_law_33 hc21 rfl (by decide) (by decide) rfl rfl ?_
        exact t_Lw_798 hd0 ih x3 ν h
      replace h := oF hc21 h
      by_cases hc22 : ((gX g x3.toNatClampNeg) &&& (63 : Int32)) = (19 : Int32)
      · replace h := oT hc22 h
        refine yG_sw (19 : Int32) (19) 831 dL_law_33 hc22 rfl (by decide) (by decide) rfl rfl ?_
        exact t_Lw_831 hd0 ih x3 ν h
      replace h := oF hc22 h
      by_cases hc23 : ((gX g x3.toNatClampNeg) &&& (63 : Int32)) = (20 : Int32)
      · replace h := oT hc23 h
        refine yG_sw (20 : Int32) (20) 864 dL_law_33 hc23 rfl (by decide) (by decide) rfl rfl ?_
        exact t_Lw_864 hd0 ih x3 ν h
      replace h := oF hc23 h
      by_cases hc24 : ((gX g x3.toNatClampNeg) &&& (63 : Int32)) = (21 : Int32)
      · replace h := oT hc24 h
        refine yG_sw (21 : Int32) (21) 887 dL_law_33 hc24 rfl (by decide) (by decide) rfl rfl ?_
        exact t_Lw_887 hd0 ih x3 ν h
      replace h := oF hc24 h
      by_cases hc25 : ((gX g x3.toNatClampNeg) &&& (63 : Int32)) = (22 : Int32)
      · replace h := oT hc25 h
        refine yG_sw (22 : Int32) (22) 920 dL_law_33 hc25 rfl (by decide) (by decide) rfl rfl ?_
        exact t_Lw_920 hd0 ih x3 ν h
      replace h := oF hc25 h
      by_cases hc26 : ((gX g x3.toNatClampNeg) &&& (63 : Int32)) = (23 : Int32)
      · replace h := oT hc26 h
        refine yG_sw (23 : Int32) (23) 953 dL_law_33 hc26 rfl (by decide) (by decide) rfl rfl ?_
        exact t_Lw_953 hd0 ih x3 ν h
      replace h := oF hc26 h
      by_cases hc27 : ((gX g x3.toNatClampNeg) &&& (63 : Int32)) = (24 : Int32)
      · replace h := oT hc27 h
        refine yG_sw (24 : Int32) (24) 976 dL_law_33 hc27 rfl (by decide) (by decide) rfl rfl ?_
        exact t_Lw_976 hd0 ih x3 ν h
      replace h := oF hc27 h
      by_cases hc28 : ((gX g x3.toNatClampNeg) &&& (63 : Int32)) = (25 : Int32)
      · replace h := oT hc28 h
        refine yG_sw (25 : Int32) (25) 999 dL_law_33 hc28 rfl (by decide) (by decide) rfl rfl ?_
        exact t_Lw_999 hd0 ih x3 ν h
      replace h := oF hc28 h
      by_cases hc29 : ((gX g x3.toNatClampNeg) &&& (63 : Int32)) = (26 : Int32)
      · replace h := oT hc29 h
        refine yG_sw (26 : Int32) (26) 1042 dL_law_33 hc29 rfl (by decide) (by decide) rfl rfl ?_
        exact t_Lw_1042 hd0 ih x3 ν h
      replace h := oF hc29 h
      by_cases hc30 : ((gX g x3.toNatClampNeg) &&& (63 : Int32)) = (27 : Int32)
      · replace h := oT hc30 h
        refine yG_sw (27 : Int32) (27) 1101 dL_law_33 hc30 rfl (by decide) (by decide) rfl rfl ?_
        exact t_Lw_1101 hd0 ih x3 ν h
      replace h := oF hc30 h
      by_cases hc31 : ((gX g x3.toNatClampNeg) &&& (63 : Int32)) = (28 : Int32)
      · replace h := oT hc31 h
        refine yG_sw (28 : Int32) (28) 1134 dL_law_33 hc31 rfl (by decide) (by decide) rfl rfl ?_
        exact t_Lw_1134 hd0 ih x3 ν h
      replace h := oF hc31 h
      by_cases hc32 : ((gX g x3.toNatClampNeg) &&& (63 : Int32)) = (29 : Int32)
      · replace h := oT hc32 h
        refine yG_sw (29 : Int32) (29) 1157 dL_law_33 hc32 rfl (by decide) (by decide) rfl rfl ?_
        exact t_Lw_1157 hd0 ih x3 ν h
      replace h := oF hc32 h
      by_cases hc33 : ((gX g x3.toNatClampNeg) &&& (63 : Int32)) = (30 : Int32)
      · replace h := oT hc33 h
        refine yG_sw (30 : Int32) (30) 1196 dL_law_33 hc33 rfl (by decide) (by decide) rfl rfl ?_
        exact t_Lw_1196 hd0 ih x3 ν h
      replace h := oF hc33 h
      by_cases hc34 : ((gX g x3.toNatClampNeg) &&& (63 : Int32)) = (31 : Int32)
      · replace h := oT hc34 h
        refine yG_sw (31 : Int32) (31) 1219 dL_law_33 hc34 rfl (by decide) (by decide) rfl rfl ?_
        exact t_Lw_1219 hd0 ih x3 ν h
      replace h := oF hc34 h
      by_cases hc35 : ((gX g x3.toNatClampNeg) &&& (63 : Int32)) = (32 : Int32)
      · replace h := oT hc35 h
        refine yG_sw (32 : Int32) (32) 1252 dL_law_33 hc35 rfl (by decide) (by decide) rfl rfl ?_
        exact t_Lw_1252 hd0 ih x3 ν h
      replace h := oF hc35 h
      by_cases hc36 : ((gX g x3.toNatClampNeg) &&& (63 : Int32)) = (33 : Int32)
      · replace h := oT hc36 h
        refine yG_sw (33 : Int32) (33) 1285 dL_law_33 hc36 rfl (by decide) (by decide) rfl rfl ?_
        exact t_Lw_1285 hd0 ih x3 ν h
      replace h := oF hc36 h
      by_cases hc37 : ((gX g x3.toNatClampNeg) &&& (63 : Int32)) = (34 : Int32)
      · replace h := oT hc37 h
        refine yG_sw (34 : Int32) (34) 1334 dL_law_33 hc37 rfl (by decide) (by decide) rfl rfl ?_
        exact t_Lw_1334 hd0 ih x3 ν h
      replace h := oF hc37 h
      by_cases hc38 : ((gX g x3.toNatClampNeg) &&& (63 : Int32)) = (35 : Int32)
      · replace h := oT hc38 h
        refine yG_sw (35 : Int32) (35) 1383 dL_law_33 hc38 rfl (by decide) (by decide) rfl rfl ?_
        exact t_Lw_1383 hd0 ih x3 ν h
      replace h := oF hc38 h
      by_cases hc39 : ((gX g x3.toNatClampNeg) &&& (63 : Int32)) = (36 : Int32)
      · replace h := oT hc39 h
        refine yG_sw (36 : Int32) (36) 1406 dL_law_33 hc39 rfl (by decide) (by decide) rfl rfl ?_
        exact t_Lw_1406 hd0 ih x3 ν h
      replace h := oF hc39 h
      by_cases hc40 : ((gX g x3.toNatClampNeg) &&& (63 : Int32)) = (37 : Int32)
      · replace h := oT hc40 h
        refine yG_sw (37 : Int32) (37) 1419 dL_law_33 hc40 rfl (by decide) (by decide) rfl rfl ?_
        exact t_Lw_1419 hd0 ih x3 ν h
      replace h := oF hc40 h
      by_cases hc41 : ((gX g x3.toNatClampNeg) &&& (63 : Int32)) = (38 : Int32)
      · replace h := oT hc41 h
        refine yG_sw (38 : Int32) (38) 1479 dL_law_33 hc41 rfl (by decide) (by decide) rfl rfl ?_
        exact t_Lw_1479 hd0 ih x3 ν h
      replace h := oF hc41 h
      by_cases hc42 : ((gX g x3.toNatClampNeg) &&& (63 : Int32)) = (39 : Int32)
      · replace h := oT hc42 h
        refine yG_sw (39 : Int32) (39) 1549 dL_law_33 hc42 rfl (by decide) (by decide) rfl rfl ?_
        exact t_Lw_1549 hd0 ih x3 ν h
      replace h := oF hc42 h
      by_cases hc43 : ((gX g x3.toNatClampNeg) &&& (63 : Int32)) = (40 : Int32)
      · replace h := oT hc43 h
        refine yG_sw (40 : Int32) (40) 1582 dL_law_33 hc43 rfl (by decide) (by decide) rfl rfl ?_
        exact t_Lw_1582 hd0 ih x3 ν h
      replace h := oF hc43 h
      by_cases hc44 : ((gX g x3.toNatClampNeg) &&& (63 : Int32)) = (41 : Int32)
      · replace h := oT hc44 h
        refine yG_sw (41 : Int32) (41) 1595 dL_law_33 hc44 rfl (by decide) (by decide) rfl rfl ?_
        exact t_Lw_1595 hd0 ih x3 ν h
      replace h := oF hc44 h
      by_cases hc45 : ((gX g x3.toNatClampNeg) &&& (63 : Int32)) = (42 : Int32)
      · replace h := oT hc45 h
        refine yG_sw (42 : Int32) (42) 1608 dL_law_33 hc45 rfl (by decide) (by decide) rfl rfl ?_
        exact t_Lw_1608 hd0 ih x3 ν h
      replace h := oF hc45 h
      by_cases hc46 : ((gX g x3.toNatClampNeg) &&& (63 : Int32)) = (43 : Int32)
      · replace h := oT hc46 h
        refine yG_sw (43 : Int32) (43) 1621 dL_law_33 hc46 rfl (by decide) (by decide) rfl rfl ?_
        exact t_Lw_1621 hd0 ih x3 ν h
      replace h := oF hc46 h
      by_cases hc47 : ((gX g x3.toNatClampNeg) &&& (63 : Int32)) = (44 : Int32)
      · replace h := oT hc47 h
        refine yG_sw (44 : Int32) (44) 1634 dL_law_33 hc47 rfl (by decide) (by decide) rfl rfl ?_
        exact t_Lw_1634 hd0 ih x3 ν h
      replace h := oF hc47 h
      by_cases hc48 : ((gX g x3.toNatClampNeg) &&& (63 : Int32)) = (45 : Int32)
      · replace h := oT hc48 h
        refine yG_sw (45 : Int32) (45) 1657 dL_law_33 hc48 rfl (by decide) (by decide) rfl rfl ?_
        exact t_Lw_1657 hd0 ih x3 ν h
      replace h := oF hc48 h
      by_cases hc49 : ((gX g x3.toNatClampNeg) &&& (63 : Int32)) = (46 : Int32)
      · replace h := oT hc49 h
        refine yG_sw (46 : Int32) (46) 1670 dL_law_33 hc49 rfl (by decide) (by decide) rfl rfl ?_
        exact t_Lw_1670 hd0 ih x3 ν h
      replace h := oF hc49 h
      by_cases hc50 : ((gX g x3.toNatClampNeg) &&& (63 : Int32)) = (47 : Int32)
      · replace h := oT hc50 h
        refine yG_sw (47 : Int32) (47) 1683 dL_law_33 hc50 rfl (by decide) (by decide) rfl rfl ?_
        exact t_Lw_1683 hd0 ih x3 ν h
      replace h := oF hc50 h
      have zhc3 := i32ne hc3 (z := 0) rfl
      have zhc4 := i32ne hc4 (z := 1) rfl
      have zhc5 := i32ne hc5 (z := 2) rfl
      have zhc6 := i32ne hc6 (z := 3) rfl
      have zhc7 := i32ne hc7 (z := 4) rfl
      have zhc8 := i32ne hc8 (z := 5) rfl
      have zhc9 := i32ne hc9 (z := 6) rfl
      have zhc10 := i32ne hc10 (z := 7) rfl
      have zhc11 := i32ne hc11 (z := 8) rfl
      have zhc12 := i32ne hc12 (z := 9) rfl
      have zhc13 := i32ne hc13 (z := 10) rfl
      have zhc14 := i32ne hc14 (z := 11) rfl
      have zhc15 := i32ne hc15 (z := 12) rfl
      have zhc16 := i32ne hc16 (z := 13) rfl
      have zhc17 := i32ne hc17 (z := 14) rfl
      have zhc18 := i32ne hc18 (z := 15) rfl
      have zhc19 := i32ne hc19 (z := 16) rfl
      have zhc20 := i32ne hc20 (z := 17) rfl
      have zhc21 := i32ne hc21 (z := 18) rfl
      have zhc22 := i32ne hc22 (z := 19) rfl
      have zhc23 := i32ne hc23 (z := 20) rfl
      have zhc24 := i32ne hc24 (z := 21) rfl
      have zhc25 := i32ne hc25 (z := 22) rfl
      have zhc26 := i32ne hc26 (z := 23) rfl
      have zhc27 := i32ne hc27 (z := 24) rfl
      have zhc28 := i32ne hc28 (z := 25) rfl
      have zhc29 := i32ne hc29 (z := 26) rfl
      have zhc30 := i32ne hc30 (z := 27) rfl
      have zhc31 := i32ne hc31 (z := 28) rfl
      have zhc32 := i32ne hc32 (z := 29) rfl
      have zhc33 := i32ne hc33 (z := 30) rfl
      have zhc34 := i32ne hc34 (z := 31) rfl
      have zhc35 := i32ne hc35 (z := 32) rfl
      have zhc36 := i32ne hc36 (z := 33) rfl
      have zhc37 := i32ne hc37 (z := 34) rfl
      have zhc38 := i32ne hc38 (z := 35) rfl
      have zhc39 := i32ne hc39 (z := 36) rfl
      have zhc40 := i32ne hc40 (z := 37) rfl
      have zhc41 := i32ne hc41 (z := 38) rfl
      have zhc42 := i32ne hc42 (z := 39) rfl
      have zhc43 := i32ne hc43 (z := 40) rfl
      have zhc44 := i32ne hc44 (z := 41) rfl
      have zhc45 := i32ne hc45 (z := 42) rfl
      have zhc46 := i32ne hc46 (z := 43) rfl
      have zhc47 := i32ne hc47 (z := 44) rfl
      have zhc48 := i32ne hc48 (z := 45) rfl
      have zhc49 := i32ne hc49 (z := 46) rfl
      have zhc50 := i32ne hc50 (z := 47) rfl
      refine z_tableOut 1706 dL_law_33 (by omega) rfl ?_
      exact t_Lw_1706 hd0 ih x3 ν h

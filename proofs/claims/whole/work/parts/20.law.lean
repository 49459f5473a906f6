/-! THE CLAIM OUT OF ONE WALK OF THE LAW'S BODY. Your part is whole_start (and what it stands on); all else here is the same for every law, but numbers. -/
def R_law : String := "ShareCoderLaw"
def lw_P (b : Addr) (xs : List Int32) (args : Array Value) (s : State) : Prop := args = #[.ref b] ∧ s.IntsAt b xs ∧ xs.length ≤ 3072 ∧ (Jvm.Cond.and given_1 narrow_1).before args s = true
def lw_Q (_ : Array Value) (s : State) (o : Outcome) (t : State) : Prop := o = .returned (some (.int 1)) ∧ Framed s o t [] 600000 7302250
def lw_Z (below : List Frame) (a : Array Value) (s : State) : State → Prop := fun t => ∃ o, t.status = .running ∧ Ended t below o ∧ lw_Q a s o t
/-- the law's own end, with 1 on the stack, nothing written that was there before, its room as the claim has it -/
theorem lw_ret {p : Program} {l : Launch} {e : Env} {s : State} {m : MethodId} {below : List Frame} {meth : Method} {c : Code} {b : Nat} (hx : p.tables.exec = Jvm.exec) (hb : c.code = code) (hr : meth.sig.returnType = ret) (hlocks : meth.locks = false) {pc : Nat} {H : Heap} {ls : Array Slot} (hdg : decode code pc = .ok (.ireturn, 1)) : W p l e room_1 s m #[Value.ref b] below meth c H [] 600000 7302250 (lw_Z below #[Value.ref b] s) (F0 m pc ls [.int 1]) := by
  intro T hT X
  obtain ⟨fs, hret, hrun, hended, hW, hframe⟩ := X.leave (v := some (.int 1)) (hlocks := hlocks) (fun h => by rw [hr] at h; cases h)
  have hmeth' : T.vm.method? m = some meth := X.method'
  refine ⟨T.setFrames fs, ?_, .returned (some (.int 1)), hrun, hended, rfl, ⟨_, rfl⟩, hW, hframe⟩
  jvm_step X.here [X.here.top, hx, hb, hdg, hmeth', hr, ret, narrow_b1]
  (try refine ⟨rfl, ?_⟩); (try refine ⟨rfl, ?_⟩)
  first | (intro acts; rw [hret _ acts rfl rfl rfl]) | rw [hret _ _ rfl rfl rfl]
  exact Steps.refl _
/-- what holds at the law's entry: the machine, the code, the tables' words (any of lw_tbl by 'hts w (by decide +kernel)'), the script of L ints xs at the cell b, what the Statement gives of the start (any of its parts by flat_of_before) -/
def lw_At (p : Program) (s : State) (m : MethodId) (meth : Method) (c : Code) (b L : Nat) (xs : Nat → Int32) : Prop :=
  p.tables.exec = Jvm.exec ∧ c.code = code ∧ meth.sig.returnType = ret ∧ c.maxLocals = 4 ∧ s.vm.findClass R_law = some m.cls ∧ (∀ w ∈ lw_tbl, w.before #[Value.ref b] s = true) ∧ va_X b L xs s s.heap ∧ b < s.heap.size ∧ meth.locks = false ∧ (Jvm.Cond.and given_1 narrow_1).before #[Value.ref b] s = true
section LX
variable {p : Program} {l : Launch} {e : Env} {R : Room} {s : State} {m : MethodId} {args : Array Value} {below : List Frame} {meth : Method} {c : Code} {H : Heap} {locs : List Loc} {cells slots : Nat} {Q : State → Prop}
variable {cc : ByteArray} {pc nL : Nat} {ls : Array Slot} {rest : List Value} {D : va_G} {a : Nat → Nat} {cs : zx_C} {S S1 : St} {own : String}
variable {y : MethodName} {bytes : ByteArray} {maxL n index : Nat} {ret : Option FieldType} {rm : Room} {As st0 : List Value}
/-- the law's call of a method of the class or the reference, its answer an int -/
theorem lx_V (F : zx_F D a cs p m c cc nL s args own meth) {A0 : Nat → Prop} {H0 : Heap} (hA : ∀ k, k < 62 → A0 (a k)) (hW : zx_W D a cs S H) (hS : va_S A0 H0 H locs) {k ci : Nat} {q : vw_C} {fs : List Value} {r : Int32} (hM : Met l y (Cond.code y bytes maxL ret :: zx_tb) rm (zx_P D a cs (.ref (a k) :: As) S) (zx_Qi D a cs r S1) 0 0 (zx_A a)) (hY : zx_Y y bytes maxL ret n) (hinst : Cond.instanceMethod y ∈ zx_tb) (hsel : Cond.selects q.1 y y ∈ zx_tb) (hlink : Cond.methodLink own index y ∈ zx_tb) (hR : rm.cells = 0 ∧ rm.slots = 0 ∧ rm.frames + 1 ≤ R.frames ∧ 8 + (maxL + 11) + rm.locals ≤ R.locals ∧ cells + 0 ≤ R.cells ∧ slots + 0 ≤ R.slots) (hk : k < 62) (he : zx_E a cs k (S k) = .inr (ci, fs)) (hc : vwCl[ci]? = some q) (hn : As.length = n) (hsz : ls.size = nL) (hst : st0 = As.reverse ++ .ref (a k) :: rest) (hroom : (rest.map fun v => v.category).sum ≤ 8) (hdg : decode cc pc = .ok (.invokevirtual index, 3))
    (kk : ∀ (H1 : Heap) (locs1 : List Loc), zx_W D a cs S1 H1 → va_S A0 H0 H1 locs1 → W p l e R s m args below meth c H1 locs1 cells slots Q (F0 m (pc + 3) ls (.int r :: rest))) : W p l e R s m args below meth c H locs cells slots Q (F0 m pc ls st0) := by
  obtain ⟨⟨hx, hb, hml, hown, hts⟩, -, hK, hJ, hN⟩ := F
  obtain ⟨hcode, hini, hd⟩ := hY
  obtain ⟨h1, h2, h3, h4, h5, h6⟩ := hR
  have hr := va_runV (locs := locs) (cells := cells) (slots := slots) (g := F0 m pc ls st0) (rest := rest) (p := p) (e := e) (below := below) (meth := meth) ⟨hx, hb, hml, hown, hts⟩ hM ⟨callB_of n hts (zx_goodc hcode) rfl h1 h2 (hts _ hini) (hts _ hlink) hd ⟨h3, h4⟩, hts _ hinst, hts _ hsel⟩ ⟨zx_blind, va_recv hK hW hc (by rw [zx_wl_get hk, he]), fun U hU hWm => ⟨rfl, by rw [hU]; exact hW, va_K.moved hWm.alike hK, hJ, hN.warm hWm⟩⟩ rfl hn hsz hst (lv_room hroom) hdg ⟨h5, h6⟩
  exact va_calli hr hS (fun q _ h => by obtain ⟨k, hk, rfl⟩ := h; exact hA k hk) (fun q h => by obtain ⟨k, hk, rfl⟩ := h; exact hA k hk) (fun r2 _ t H1 locs1 ht _ hp hB _ _ hS1 => by subst hp; subst ht; exact kk _ locs1 hB hS1)
end LX
/-- class and reference answer alike from every state with I, and I holds behind them -/
def lx_ok (I : St → Prop) (f g : St → Option (Int32 × St)) : Prop := ∀ S, I S → ∃ (r : Int32) (S1 S2 : St), f S = some (r, S1) ∧ g S1 = some (r, S2) ∧ I S2
theorem lx_in {x3 : Int32} {i j L : Nat} (h : x3 = nI i) (hj : i + j < L) (hL : L ≤ 3072) : vp_in (x3 + nI j) L := by
  rw [h, nI_add]
  exact vp_in_nI hj (by omega)
/-- what the pure side owes: the nineteen calls -/
abbrev lx_h0 (fu : Nat) (I : St → Prop) : Prop := ∀ u1 u2 u3 u4 u5 : Int32, lx_ok I (f_X8_feed fu u1 u2 u3 u4 u5) (f_X9_feed fu u1 u2 u3 u4 u5)
abbrev lx_h1 (fu : Nat) (I : St → Prop) : Prop := ∀ u1 : Int32, lx_ok I (f_X8_end u1) (f_X9_end u1)
abbrev lx_h2 (fu : Nat) (I : St → Prop) : Prop := ∀ u1 u2 : Int32, lx_ok I (f_X8_learn fu u1 u2) (f_X9_learn fu u1 u2)
abbrev lx_h3 (fu : Nat) (I : St → Prop) : Prop := ∀ u1 : Int32, lx_ok I (f_X8_log u1) (f_X9_log u1)
abbrev lx_h4 (fu : Nat) (I : St → Prop) : Prop := ∀ u1 u2 : Int32, lx_ok I (f_X8_share u1 u2) (f_X9_share u1 u2)
abbrev lx_h5 (fu : Nat) (I : St → Prop) : Prop := ∀ u1 u2 : Int32, lx_ok I (f_X8_start fu u1 u2) (f_X9_start u1 u2)
abbrev lx_h6 (fu : Nat) (I : St → Prop) : Prop := ∀ u1 u2 u3 : Int32, lx_ok I (f_X8_place fu u1 u2 u3) (f_X9_place fu u1 u2 u3)
abbrev lx_h7 (fu : Nat) (I : St → Prop) : Prop := ∀ u1 u2 u3 : Int32, lx_ok I (f_X8_rank fu u1 u2 u3) (f_X9_rank fu u1 u2 u3)
abbrev lx_h8 (fu : Nat) (I : St → Prop) : Prop := ∀ u1 u2 u3 : Int32, lx_ok I (f_X8_pack fu u1 u2 u3) (f_X9_pack fu u1 u2 u3)
abbrev lx_h9 (fu : Nat) (I : St → Prop) : Prop := ∀ u1 : Int32, lx_ok I (f_X8_unpack fu u1) (f_X9_unpack fu u1)
abbrev lx_h10 (fu : Nat) (I : St → Prop) : Prop := ∀ u1 : Int32, lx_ok I (f_X8_fault u1) (f_X9_fault u1)
abbrev lx_h11 (fu : Nat) (I : St → Prop) : Prop := ∀ u1 : Int32, lx_ok I (f_X8_written u1) (f_X9_written u1)
abbrev lx_h12 (fu : Nat) (I : St → Prop) : Prop := lx_ok I (f_X8_take) (f_X9_take fu)
abbrev lx_h13 (fu : Nat) (I : St → Prop) : Prop := ∀ u1 : Int32, lx_ok I (f_X8_ideal fu u1) (f_X9_ideal fu u1)
abbrev lx_h14 (fu : Nat) (I : St → Prop) : Prop := ∀ u1 u2 u3 u4 u5 : Int32, lx_ok I (f_X8_code fu u1 u2 u3 u4 u5) (f_X9_code fu u1 u2 u3 u4 u5)
abbrev lx_h15 (fu : Nat) (I : St → Prop) : Prop := ∀ u1 : Int32, lx_ok I (f_X8_gone u1) (f_X9_gone u1)
abbrev lx_h16 (fu : Nat) (I : St → Prop) : Prop := ∀ u1 u2 u3 u4 : Int32, lx_ok I (f_X8_symbol fu u1 u2 u3 u4) (f_X9_symbol fu u1 u2 u3 u4)
abbrev lx_h17 (fu : Nat) (I : St → Prop) : Prop := ∀ u1 u2 u3 u4 : Int32, lx_ok I (f_X8_left fu u1 u2 u3 u4) (f_X9_left fu u1 u2 u3 u4)
abbrev lx_h18 (fu : Nat) (I : St → Prop) : Prop := ∀ u1 : Int32, lx_ok I (f_X8_look u1) (f_X9_look u1)
def lx_all (fu : Nat) (I : St → Prop) : Prop := lx_h0 fu I ∧ lx_h1 fu I ∧ lx_h2 fu I ∧ lx_h3 fu I ∧ lx_h4 fu I ∧ lx_h5 fu I ∧ lx_h6 fu I ∧ lx_h7 fu I ∧ lx_h8 fu I ∧ lx_h9 fu I ∧ lx_h10 fu I ∧ lx_h11 fu I ∧ lx_h12 fu I ∧ lx_h13 fu I ∧ lx_h14 fu I ∧ lx_h15 fu I ∧ lx_h16 fu I ∧ lx_h17 fu I ∧ lx_h18 fu I
set_option maxHeartbeats 4000000 in
set_option maxRecDepth 100000 in
theorem lx_c0 {p : Program} {l : Launch} {e : Env} {s : State} {m : MethodId} {below : List Frame} {meth : Method} {c : Code} {D : va_G} {a : Nat → Nat} {cs : zx_C} {b L : Nat} {xs : Nat → Int32} (F : zx_F D a cs p m c cL_law 4 s #[Value.ref b] RL meth) (hX : va_X b L xs s s.heap) (hbl : b < s.heap.size) (hA : ∀ k, k < 62 → s.heap.size ≤ a k) (hL : L ≤ 3072) {fu : Nat} {I : St → Prop} (hI : lx_h0 fu I) {x3 : Int32} {i : Nat} (e3 : x3 = nI i) (hi : i + 5 < L) (hnext : ∀ (S : St) (H : Heap) (locs : List Loc) (ls : Array Slot), I S → zx_W D a cs S H → va_S (fun q : Nat => s.heap.size ≤ q) s.heap H locs → lv_has ls 4 [(0, .ref b), (1, .ref (a 0)), (2, .ref (a 43)), (3, .int x3)] → W p l e room_1 s m #[Value.ref b] below meth c H locs 600000 7302250 (lw_Z below #[Value.ref b] s) (F0 m 781 ls [])) (S : St) (H : Heap) (locs : List Loc) (ls : Array Slot) (hi0 : I S) (hW : zx_W D a cs S H) (hS : va_S (fun q : Nat => s.heap.size ≤ q) s.heap H locs) (hl : lv_has ls 4 [(0, .ref b), (1, .ref (a 0)), (2, .ref (a 43)), (3, .int x3)]) : W p l e room_1 s m #[Value.ref b] below meth c H locs 600000 7302250 (lw_Z below #[Value.ref b] s) (F0 m 124 ls []) := by
  obtain ⟨⟨hx, hb, hml, hown, hts⟩, hlk, hK, hJ, hN⟩ := id F
  have hbA : ¬ (fun q : Nat => s.heap.size ≤ q) b := Nat.not_le.mpr hbl
  obtain ⟨r, S1, S2, h1, h2, h3⟩ := hI (xs (x3 + 1).toNatClampNeg) (xs (x3 + 2).toNatClampNeg) (xs (x3 + 3).toNatClampNeg) (xs (x3 + 4).toNatClampNeg) (xs (x3 + 5).toNatClampNeg) S hi0
  have hin1 : vp_in (x3 + 1) L := lx_in (j := 1) e3 (by omega) hL
  have hin2 : vp_in (x3 + 2) L := lx_in (j := 2) e3 (by omega) hL
  have hin3 : vp_in (x3 + 3) L := lx_in (j := 3) e3 (by omega) hL
  have hin4 : vp_in (x3 + 4) L := lx_in (j := 4) e3 (by omega) hL
  have hin5 : vp_in (x3 + 5) L := lx_in (j := 5) e3 (by omega) hL
  refine lv_aload_n hx hb dL_law_124 rfl (lv_at hl 1 rfl) ?_
  refine lv_aload_n hx hb dL_law_125 rfl (lv_at hl 0 rfl) ?_
  refine lv_iload_n hx hb dL_law_126 rfl (lv_at hl 3 rfl) ?_
  refine lv_iconst (v := 1) hx hb dL_law_127 (by decide) ?_
  refine lv_iadd hx hb dL_law_128 ?_
  refine va_sld hx hb hX hbl hbA hS hin1 dL_law_129 ?_
  refine lv_aload_n hx hb dL_law_130 rfl (lv_at hl 0 rfl) ?_
  refine lv_iload_n hx hb dL_law_131 rfl (lv_at hl 3 rfl) ?_
  refine lv_iconst (v := 2) hx hb dL_law_132 (by decide) ?_
  refine lv_iadd hx hb dL_law_133 ?_
  refine va_sld hx hb hX hbl hbA hS hin2 dL_law_134 ?_
  refine lv_aload_n hx hb dL_law_135 rfl (lv_at hl 0 rfl) ?_
  refine lv_iload_n hx hb dL_law_136 rfl (lv_at hl 3 rfl) ?_
  refine lv_iconst (v := 3) hx hb dL_law_137 (by decide) ?_
  refine lv_iadd hx hb dL_law_138 ?_
  refine va_sld hx hb hX hbl hbA hS hin3 dL_law_139 ?_
  refine lv_aload_n hx hb dL_law_140 rfl (lv_at hl 0 rfl) ?_
  refine lv_iload_n hx hb dL_law_141 rfl (lv_at hl 3 rfl) ?_
  refine lv_iconst (v := 4) hx hb dL_law_142 (by decide) ?_
  refine lv_iadd hx hb dL_law_143 ?_
  refine va_sld hx hb hX hbl hbA hS hin4 dL_law_144 ?_
  refine lv_aload_n hx hb dL_law_145 rfl (lv_at hl 0 rfl) ?_
  refine lv_iload_n hx hb dL_law_146 rfl (lv_at hl 3 rfl) ?_
  refine lv_iconst (v := 5) hx hb dL_law_147 (by decide) ?_
  refine lv_iadd hx hb dL_law_148 ?_
  refine va_sld hx hb hX hbl hbA hS hin5 dL_law_149 ?_
  refine lx_V (q := (RX8, TX8, 11)) (As := [.int (xs (x3 + 1).toNatClampNeg), .int (xs (x3 + 2).toNatClampNeg), .int (xs (x3 + 3).toNatClampNeg), .int (xs (x3 + 4).toNatClampNeg), .int (xs (x3 + 5).toNatClampNeg)]) (rest := []) F hA hW hS (c_X8_feed l D a cs fu (xs (x3 + 1).toNatClampNeg) (xs (x3 + 2).toNatClampNeg) (xs (x3 + 3).toNatClampNeg) (xs (x3 + 4).toNatClampNeg) (xs (x3 + 5).toNatClampNeg) S r S1 h1) Y_X8_feed wi_X8_feed ws_X8_feed wm_L_13 ⟨rfl, rfl, Nat.le_of_ble_eq_true rfl, Nat.le_of_ble_eq_true rfl, Nat.le_of_ble_eq_true rfl, Nat.le_of_ble_eq_true rfl⟩ (by decide) zx_E0 rfl rfl hl.1 rfl (Nat.le_of_ble_eq_true rfl) dL_law_150 (fun H locs hW hS => ?_)
  refine lv_aload_n hx hb dL_law_153 rfl (lv_at hl 2 rfl) ?_
  refine lv_aload_n hx hb dL_law_154 rfl (lv_at hl 0 rfl) ?_
  refine lv_iload_n hx hb dL_law_155 rfl (lv_at hl 3 rfl) ?_
  refine lv_iconst (v := 1) hx hb dL_law_156 (by decide) ?_
  refine lv_iadd hx hb dL_law_157 ?_
  refine va_sld hx hb hX hbl hbA hS hin1 dL_law_158 ?_
  refine lv_aload_n hx hb dL_law_159 rfl (lv_at hl 0 rfl) ?_
  refine lv_iload_n hx hb dL_law_160 rfl (lv_at hl 3 rfl) ?_
  refine lv_iconst (v := 2) hx hb dL_law_161 (by decide) ?_
  refine lv_iadd hx hb dL_law_162 ?_
  refine va_sld hx hb hX hbl hbA hS hin2 dL_law_163 ?_
  refine lv_aload_n hx hb dL_law_164 rfl (lv_at hl 0 rfl) ?_
  refine lv_iload_n hx hb dL_law_165 rfl (lv_at hl 3 rfl) ?_
  refine lv_iconst (v := 3) hx hb dL_law_166 (by decide) ?_
  refine lv_iadd hx hb dL_law_167 ?_
  refine va_sld hx hb hX hbl hbA hS hin3 dL_law_168 ?_
  refine lv_aload_n hx hb dL_law_169 rfl (lv_at hl 0 rfl) ?_
  refine lv_iload_n hx hb dL_law_170 rfl (lv_at hl 3 rfl) ?_
  refine lv_iconst (v := 4) hx hb dL_law_171 (by decide) ?_
  refine lv_iadd hx hb dL_law_172 ?_
  refine va_sld hx hb hX hbl hbA hS hin4 dL_law_173 ?_
  refine lv_aload_n hx hb dL_law_174 rfl (lv_at hl 0 rfl) ?_
  refine lv_iload_n hx hb dL_law_175 rfl (lv_at hl 3 rfl) ?_
  refine lv_iconst (v := 5) hx hb dL_law_176 (by decide) ?_
  refine lv_iadd hx hb dL_law_177 ?_
  refine va_sld hx hb hX hbl hbA hS hin5 dL_law_178 ?_
  refine lx_V (q := (RX9, TX9, 35)) (As := [.int (xs (x3 + 1).toNatClampNeg), .int (xs (x3 + 2).toNatClampNeg), .int (xs (x3 + 3).toNatClampNeg), .int (xs (x3 + 4).toNatClampNeg), .int (xs (x3 + 5).toNatClampNeg)]) (rest := [.int r]) F hA hW hS (c_X9_feed l D a cs fu (xs (x3 + 1).toNatClampNeg) (xs (x3 + 2).toNatClampNeg) (xs (x3 + 3).toNatClampNeg) (xs (x3 + 4).toNatClampNeg) (xs (x3 + 5).toNatClampNeg) S1 r S2 h2) Y_X9_feed wi_X9_feed ws_X9_feed wm_L_17 ⟨rfl, rfl, Nat.le_of_ble_eq_true rfl, Nat.le_of_ble_eq_true rfl, Nat.le_of_ble_eq_true rfl, Nat.le_of_ble_eq_true rfl⟩ (by decide) zx_E43 rfl rfl hl.1 rfl (Nat.le_of_ble_eq_true rfl) dL_law_179 (fun H locs hW hS => ?_)
  refine lv_icmp_eq (tgt := 781) hx hb dL_law_182 (by decide) (fun _ => ?_) (fun q => absurd rfl q)
  exact hnext S2 _ _ _ h3 hW hS hl
set_option maxHeartbeats 4000000 in
set_option maxRecDepth 100000 in
theorem lx_c1 {p : Program} {l : Launch} {e : Env} {s : State} {m : MethodId} {below : List Frame} {meth : Method} {c : Code} {D : va_G} {a : Nat → Nat} {cs : zx_C} {b L : Nat} {xs : Nat → Int32} (F : zx_F D a cs p m c cL_law 4 s #[Value.ref b] RL meth) (hX : va_X b L xs s s.heap) (hbl : b < s.heap.size) (hA : ∀ k, k < 62 → s.heap.size ≤ a k) (hL : L ≤ 3072) {fu : Nat} {I : St → Prop} (hI : lx_h1 fu I) {x3 : Int32} {i : Nat} (e3 : x3 = nI i) (hi : i + 5 < L) (hnext : ∀ (S : St) (H : Heap) (locs : List Loc) (ls : Array Slot), I S → zx_W D a cs S H → va_S (fun q : Nat => s.heap.size ≤ q) s.heap H locs → lv_has ls 4 [(0, .ref b), (1, .ref (a 0)), (2, .ref (a 43)), (3, .int x3)] → W p l e room_1 s m #[Value.ref b] below meth c H locs 600000 7302250 (lw_Z below #[Value.ref b] s) (F0 m 781 ls [])) (S : St) (H : Heap) (locs : List Loc) (ls : Array Slot) (hi0 : I S) (hW : zx_W D a cs S H) (hS : va_S (fun q : Nat => s.heap.size ≤ q) s.heap H locs) (hl : lv_has ls 4 [(0, .ref b), (1, .ref (a 0)), (2, .ref (a 43)), (3, .int x3)]) : W p l e room_1 s m #[Value.ref b] below meth c H locs 600000 7302250 (lw_Z below #[Value.ref b] s) (F0 m 187 ls []) := by
  obtain ⟨⟨hx, hb, hml, hown, hts⟩, hlk, hK, hJ, hN⟩ := id F
  have hbA : ¬ (fun q : Nat => s.heap.size ≤ q) b := Nat.not_le.mpr hbl
  obtain ⟨r, S1, S2, h1, h2, h3⟩ := hI (xs (x3 + 1).toNatClampNeg) S hi0
  have hin1 : vp_in (x3 + 1) L := lx_in (j := 1) e3 (by omega) hL
  refine lv_aload_n hx hb dL_law_187 rfl (lv_at hl 1 rfl) ?_
  refine lv_aload_n hx hb dL_law_188 rfl (lv_at hl 0 rfl) ?_
  refine lv_iload_n hx hb dL_law_189 rfl (lv_at hl 3 rfl) ?_
  refine lv_iconst (v := 1) hx hb dL_law_190 (by decide) ?_
  refine lv_iadd hx hb dL_law_191 ?_
  refine va_sld hx hb hX hbl hbA hS hin1 dL_law_192 ?_
  refine lx_V (q := (RX8, TX8, 11)) (As := [.int (xs (x3 + 1).toNatClampNeg)]) (rest := []) F hA hW hS (c_X8_end l D a cs (xs (x3 + 1).toNatClampNeg) S r S1 h1) Y_X8_end wi_X8_end ws_X8_end wm_L_18 ⟨rfl, rfl, Nat.le_of_ble_eq_true rfl, Nat.le_of_ble_eq_true rfl, Nat.le_of_ble_eq_true rfl, Nat.le_of_ble_eq_true rfl⟩ (by decide) zx_E0 rfl rfl hl.1 rfl (Nat.le_of_ble_eq_true rfl) dL_law_193 (fun H locs hW hS => ?_)
  refine lv_aload_n hx hb dL_law_196 rfl (lv_at hl 2 rfl) ?_
  refine lv_aload_n hx hb dL_law_197 rfl (lv_at hl 0 rfl) ?_
  refine lv_iload_n hx hb dL_law_198 rfl (lv_at hl 3 rfl) ?_
  refine lv_iconst (v := 1) hx hb dL_law_199 (by decide) ?_
  refine lv_iadd hx hb dL_law_200 ?_
  refine va_sld hx hb hX hbl hbA hS hin1 dL_law_201 ?_
  refine lx_V (q := (RX9, TX9, 35)) (As := [.int (xs (x3 + 1).toNatClampNeg)]) (rest := [.int r]) F hA hW hS (c_X9_end l D a cs (xs (x3 + 1).toNatClampNeg) S1 r S2 h2) Y_X9_end wi_X9_end ws_X9_end wm_L_22 ⟨rfl, rfl, Nat.le_of_ble_eq_true rfl, Nat.le_of_ble_eq_true rfl, Nat.le_of_ble_eq_true rfl, Nat.le_of_ble_eq_true rfl⟩ (by decide) zx_E43 rfl rfl hl.1 rfl (Nat.le_of_ble_eq_true rfl) dL_law_202 (fun H locs hW hS => ?_)
  refine lv_icmp_eq (tgt := 781) hx hb dL_law_205 (by decide) (fun _ => ?_) (fun q => absurd rfl q)
  exact hnext S2 _ _ _ h3 hW hS hl
set_option maxHeartbeats 4000000 in
set_option maxRecDepth 100000 in
theorem lx_c2 {p : Program} {l : Launch} {e : Env} {s : State} {m : MethodId} {below : List Frame} {meth : Method} {c : Code} {D : va_G} {a : Nat → Nat} {cs : zx_C} {b L : Nat} {xs : Nat → Int32} (F : zx_F D a cs p m c cL_law 4 s #[Value.ref b] RL meth) (hX : va_X b L xs s s.heap) (hbl : b < s.heap.size) (hA : ∀ k, k < 62 → s.heap.size ≤ a k) (hL : L ≤ 3072) {fu : Nat} {I : St → Prop} (hI : lx_h2 fu I) {x3 : Int32} {i : Nat} (e3 : x3 = nI i) (hi : i + 5 < L) (hnext : ∀ (S : St) (H : Heap) (locs : List Loc) (ls : Array Slot), I S → zx_W D a cs S H → va_S (fun q : Nat => s.heap.size ≤ q) s.heap H locs → lv_has ls 4 [(0, .ref b), (1, .ref (a 0)), (2, .ref (a 43)), (3, .int x3)] → W p l e room_1 s m #[Value.ref b] below meth c H locs 600000 7302250 (lw_Z below #[Value.ref b] s) (F0 m 781 ls [])) (S : St) (H : Heap) (locs : List Loc) (ls : Array Slot) (hi0 : I S) (hW : zx_W D a cs S H) (hS : va_S (fun q : Nat => s.heap.size ≤ q) s.heap H locs) (hl : lv_has ls 4 [(0, .ref b), (1, .ref (a 0)), (2, .ref (a 43)), (3, .int x3)]) : W p l e room_1 s m #[Value.ref b] below meth c H locs 600000 7302250 (lw_Z below #[Value.ref b] s) (F0 m 210 ls []) := by
  obtain ⟨⟨hx, hb, hml, hown, hts⟩, hlk, hK, hJ, hN⟩ := id F
  have hbA : ¬ (fun q : Nat => s.heap.size ≤ q) b := Nat.not_le.mpr hbl
  obtain ⟨r, S1, S2, h1, h2, h3⟩ := hI (xs (x3 + 1).toNatClampNeg) (xs (x3 + 2).toNatClampNeg) S hi0
  have hin1 : vp_in (x3 + 1) L := lx_in (j := 1) e3 (by omega) hL
  have hin2 : vp_in (x3 + 2) L := lx_in (j := 2) e3 (by omega) hL
  refine lv_aload_n hx hb dL_law_210 rfl (lv_at hl 1 rfl) ?_
  refine lv_aload_n hx hb dL_law_211 rfl (lv_at hl 0 rfl) ?_
  refine lv_iload_n hx hb dL_law_212 rfl (lv_at hl 3 rfl) ?_
  refine lv_iconst (v := 1) hx hb dL_law_213 (by decide) ?_
  refine lv_iadd hx hb dL_law_214 ?_
  refine va_sld hx hb hX hbl hbA hS hin1 dL_law_215 ?_
  refine lv_aload_n hx hb dL_law_216 rfl (lv_at hl 0 rfl) ?_
  refine lv_iload_n hx hb dL_law_217 rfl (lv_at hl 3 rfl) ?_
  refine lv_iconst (v := 2) hx hb dL_law_218 (by decide) ?_
  refine lv_iadd hx hb dL_law_219 ?_
  refine va_sld hx hb hX hbl hbA hS hin2 dL_law_220 ?_
  refine lx_V (q := (RX8, TX8, 11)) (As := [.int (xs (x3 + 1).toNatClampNeg), .int (xs (x3 + 2).toNatClampNeg)]) (rest := []) F hA hW hS (c_X8_learn l D a cs fu (xs (x3 + 1).toNatClampNeg) (xs (x3 + 2).toNatClampNeg) S r S1 h1) Y_X8_learn wi_X8_learn ws_X8_learn wm_L_23 ⟨rfl, rfl, Nat.le_of_ble_eq_true rfl, Nat.le_of_ble_eq_true rfl, Nat.le_of_ble_eq_true rfl, Nat.le_of_ble_eq_true rfl⟩ (by decide) zx_E0 rfl rfl hl.1 rfl (Nat.le_of_ble_eq_true rfl) dL_law_221 (fun H locs hW hS => ?_)
  refine lv_aload_n hx hb dL_law_224 rfl (lv_at hl 2 rfl) ?_
  refine lv_aload_n hx hb dL_law_225 rfl (lv_at hl 0 rfl) ?_
  refine lv_iload_n hx hb dL_law_226 rfl (lv_at hl 3 rfl) ?_
  refine lv_iconst (v := 1) hx hb dL_law_227 (by decide) ?_
  refine lv_iadd hx hb dL_law_228 ?_
  refine va_sld hx hb hX hbl hbA hS hin1 dL_law_229 ?_
  refine lv_aload_n hx hb dL_law_230 rfl (lv_at hl 0 rfl) ?_
  refine lv_iload_n hx hb dL_law_231 rfl (lv_at hl 3 rfl) ?_
  refine lv_iconst (v := 2) hx hb dL_law_232 (by decide) ?_
  refine lv_iadd hx hb dL_law_233 ?_
  refine va_sld hx hb hX hbl hbA hS hin2 dL_law_234 ?_
  refine lx_V (q := (RX9, TX9, 35)) (As := [.int (xs (x3 + 1).toNatClampNeg), .int (xs (x3 + 2).toNatClampNeg)]) (rest := [.int r]) F hA hW hS (c_X9_learn l D a cs fu (xs (x3 + 1).toNatClampNeg) (xs (x3 + 2).toNatClampNeg) S1 r S2 h2) Y_X9_learn wi_X9_learn ws_X9_learn wm_L_27 ⟨rfl, rfl, Nat.le_of_ble_eq_true rfl, Nat.le_of_ble_eq_true rfl, Nat.le_of_ble_eq_true rfl, Nat.le_of_ble_eq_true rfl⟩ (by decide) zx_E43 rfl rfl hl.1 rfl (Nat.le_of_ble_eq_true rfl) dL_law_235 (fun H locs hW hS => ?_)
  refine lv_icmp_eq (tgt := 781) hx hb dL_law_238 (by decide) (fun _ => ?_) (fun q => absurd rfl q)
  exact hnext S2 _ _ _ h3 hW hS hl
set_option maxHeartbeats 4000000 in
set_option maxRecDepth 100000 in
theorem lx_c3 {p : Program} {l : Launch} {e : Env} {s : State} {m : MethodId} {below : List Frame} {meth : Method} {c : Code} {D : va_G} {a : Nat → Nat} {cs : zx_C} {b L : Nat} {xs : Nat → Int32} (F : zx_F D a cs p m c cL_law 4 s #[Value.ref b] RL meth) (hX : va_X b L xs s s.heap) (hbl : b < s.heap.size) (hA : ∀ k, k < 62 → s.heap.size ≤ a k) (hL : L ≤ 3072) {fu : Nat} {I : St → Prop} (hI : lx_h3 fu I) {x3 : Int32} {i : Nat} (e3 : x3 = nI i) (hi : i + 5 < L) (hnext : ∀ (S : St) (H : Heap) (locs : List Loc) (ls : Array Slot), I S → zx_W D a cs S H → va_S (fun q : Nat => s.heap.size ≤ q) s.heap H locs → lv_has ls 4 [(0, .ref b), (1, .ref (a 0)), (2, .ref (a 43)), (3, .int x3)] → W p l e room_1 s m #[Value.ref b] below meth c H locs 600000 7302250 (lw_Z below #[Value.ref b] s) (F0 m 781 ls [])) (S : St) (H : Heap) (locs : List Loc) (ls : Array Slot) (hi0 : I S) (hW : zx_W D a cs S H) (hS : va_S (fun q : Nat => s.heap.size ≤ q) s.heap H locs) (hl : lv_has ls 4 [(0, .ref b), (1, .ref (a 0)), (2, .ref (a 43)), (3, .int x3)]) : W p l e room_1 s m #[Value.ref b] below meth c H locs 600000 7302250 (lw_Z below #[Value.ref b] s) (F0 m 243 ls []) := by
  obtain ⟨⟨hx, hb, hml, hown, hts⟩, hlk, hK, hJ, hN⟩ := id F
  have hbA : ¬ (fun q : Nat => s.heap.size ≤ q) b := Nat.not_le.mpr hbl
  obtain ⟨r, S1, S2, h1, h2, h3⟩ := hI (xs (x3 + 1).toNatClampNeg) S hi0
  have hin1 : vp_in (x3 + 1) L := lx_in (j := 1) e3 (by omega) hL
  refine lv_aload_n hx hb dL_law_243 rfl (lv_at hl 1 rfl) ?_
  refine lv_aload_n hx hb dL_law_244 rfl (lv_at hl 0 rfl) ?_
  refine lv_iload_n hx hb dL_law_245 rfl (lv_at hl 3 rfl) ?_
  refine lv_iconst (v := 1) hx hb dL_law_246 (by decide) ?_
  refine lv_iadd hx hb dL_law_247 ?_
  refine va_sld hx hb hX hbl hbA hS hin1 dL_law_248 ?_
  refine lx_V (q := (RX8, TX8, 11)) (As := [.int (xs (x3 + 1).toNatClampNeg)]) (rest := []) F hA hW hS (c_X8_log l D a cs (xs (x3 + 1).toNatClampNeg) S r S1 h1) Y_X8_log wi_X8_log ws_X8_log wm_L_28 ⟨rfl, rfl, Nat.le_of_ble_eq_true rfl, Nat.le_of_ble_eq_true rfl, Nat.le_of_ble_eq_true rfl, Nat.le_of_ble_eq_true rfl⟩ (by decide) zx_E0 rfl rfl hl.1 rfl (Nat.le_of_ble_eq_true rfl) dL_law_249 (fun H locs hW hS => ?_)
  refine lv_aload_n hx hb dL_law_252 rfl (lv_at hl 2 rfl) ?_
  refine lv_aload_n hx hb dL_law_253 rfl (lv_at hl 0 rfl) ?_
  refine lv_iload_n hx hb dL_law_254 rfl (lv_at hl 3 rfl) ?_
  refine lv_iconst (v := 1) hx hb dL_law_255 (by decide) ?_
  refine lv_iadd hx hb dL_law_256 ?_
  refine va_sld hx hb hX hbl hbA hS hin1 dL_law_257 ?_
  refine lx_V (q := (RX9, TX9, 35)) (As := [.int (xs (x3 + 1).toNatClampNeg)]) (rest := [.int r]) F hA hW hS (c_X9_log l D a cs (xs (x3 + 1).toNatClampNeg) S1 r S2 h2) Y_X9_log wi_X9_log ws_X9_log wm_L_31 ⟨rfl, rfl, Nat.le_of_ble_eq_true rfl, Nat.le_of_ble_eq_true rfl, Nat.le_of_ble_eq_true rfl, Nat.le_of_ble_eq_true rfl⟩ (by decide) zx_E43 rfl rfl hl.1 rfl (Nat.le_of_ble_eq_true rfl) dL_law_258 (fun H locs hW hS => ?_)
  refine lv_icmp_eq (tgt := 781) hx hb dL_law_261 (by decide) (fun _ => ?_) (fun q => absurd rfl q)
  exact hnext S2 _ _ _ h3 hW hS hl
set_option maxHeartbeats 4000000 in
set_option maxRecDepth 100000 in
theorem lx_c4 {p : Program} {l : Launch} {e : Env} {s : State} {m : MethodId} {below : List Frame} {meth : Method} {c : Code} {D : va_G} {a : Nat → Nat} {cs : zx_C} {b L : Nat} {xs : Nat → Int32} (F : zx_F D a cs p m c cL_law 4 s #[Value.ref b] RL meth) (hX : va_X b L xs s s.heap) (hbl : b < s.heap.size) (hA : ∀ k, k < 62 → s.heap.size ≤ a k) (hL : L ≤ 3072) {fu : Nat} {I : St → Prop} (hI : lx_h4 fu I) {x3 : Int32} {i : Nat} (e3 : x3 = nI i) (hi : i + 5 < L) (hnext : ∀ (S : St) (H : Heap) (locs : List Loc) (ls : Array Slot), I S → zx_W D a cs S H → va_S (fun q : Nat => s.heap.size ≤ q) s.heap H locs → lv_has ls 4 [(0, .ref b), (1, .ref (a 0)), (2, .ref (a 43)), (3, .int x3)] → W p l e room_1 s m #[Value.ref b] below meth c H locs 600000 7302250 (lw_Z below #[Value.ref b] s) (F0 m 781 ls [])) (S : St) (H : Heap) (locs : List Loc) (ls : Array Slot) (hi0 : I S) (hW : zx_W D a cs S H) (hS : va_S (fun q : Nat => s.heap.size ≤ q) s.heap H locs) (hl : lv_has ls 4 [(0, .ref b), (1, .ref (a 0)), (2, .ref (a 43)), (3, .int x3)]) : W p l e room_1 s m #[Value.ref b] below meth c H locs 600000 7302250 (lw_Z below #[Value.ref b] s) (F0 m 266 ls []) := by
  obtain ⟨⟨hx, hb, hml, hown, hts⟩, hlk, hK, hJ, hN⟩ := id F
  have hbA : ¬ (fun q : Nat => s.heap.size ≤ q) b := Nat.not_le.mpr hbl
  obtain ⟨r, S1, S2, h1, h2, h3⟩ := hI (xs (x3 + 1).toNatClampNeg) (xs (x3 + 2).toNatClampNeg) S hi0
  have hin1 : vp_in (x3 + 1) L := lx_in (j := 1) e3 (by omega) hL
  have hin2 : vp_in (x3 + 2) L := lx_in (j := 2) e3 (by omega) hL
  refine lv_aload_n hx hb dL_law_266 rfl (lv_at hl 1 rfl) ?_
  refine lv_aload_n hx hb dL_law_267 rfl (lv_at hl 0 rfl) ?_
  refine lv_iload_n hx hb dL_law_268 rfl (lv_at hl 3 rfl) ?_
  refine lv_iconst (v := 1) hx hb dL_law_269 (by decide) ?_
  refine lv_iadd hx hb dL_law_270 ?_
  refine va_sld hx hb hX hbl hbA hS hin1 dL_law_271 ?_
  refine lv_aload_n hx hb dL_law_272 rfl (lv_at hl 0 rfl) ?_
  refine lv_iload_n hx hb dL_law_273 rfl (lv_at hl 3 rfl) ?_
  refine lv_iconst (v := 2) hx hb dL_law_274 (by decide) ?_
  refine lv_iadd hx hb dL_law_275 ?_
  refine va_sld hx hb hX hbl hbA hS hin2 dL_law_276 ?_
  refine lx_V (q := (RX8, TX8, 11)) (As := [.int (xs (x3 + 1).toNatClampNeg), .int (xs (x3 + 2).toNatClampNeg)]) (rest := []) F hA hW hS (c_X8_share l D a cs (xs (x3 + 1).toNatClampNeg) (xs (x3 + 2).toNatClampNeg) S r S1 h1) Y_X8_share wi_X8_share ws_X8_share wm_L_32 ⟨rfl, rfl, Nat.le_of_ble_eq_true rfl, Nat.le_of_ble_eq_true rfl, Nat.le_of_ble_eq_true rfl, Nat.le_of_ble_eq_true rfl⟩ (by decide) zx_E0 rfl rfl hl.1 rfl (Nat.le_of_ble_eq_true rfl) dL_law_277 (fun H locs hW hS => ?_)
  refine lv_aload_n hx hb dL_law_280 rfl (lv_at hl 2 rfl) ?_
  refine lv_aload_n hx hb dL_law_281 rfl (lv_at hl 0 rfl) ?_
  refine lv_iload_n hx hb dL_law_282 rfl (lv_at hl 3 rfl) ?_
  refine lv_iconst (v := 1) hx hb dL_law_283 (by decide) ?_
  refine lv_iadd hx hb dL_law_284 ?_
  refine va_sld hx hb hX hbl hbA hS hin1 dL_law_285 ?_
  refine lv_aload_n hx hb dL_law_286 rfl (lv_at hl 0 rfl) ?_
  refine lv_iload_n hx hb dL_law_287 rfl (lv_at hl 3 rfl) ?_
  refine lv_iconst (v := 2) hx hb dL_law_288 (by decide) ?_
  refine lv_iadd hx hb dL_law_289 ?_
  refine va_sld hx hb hX hbl hbA hS hin2 dL_law_290 ?_
  refine lx_V (q := (RX9, TX9, 35)) (As := [.int (xs (x3 + 1).toNatClampNeg), .int (xs (x3 + 2).toNatClampNeg)]) (rest := [.int r]) F hA hW hS (c_X9_share l D a cs (xs (x3 + 1).toNatClampNeg) (xs (x3 + 2).toNatClampNeg) S1 r S2 h2) Y_X9_share wi_X9_share ws_X9_share wm_L_35 ⟨rfl, rfl, Nat.le_of_ble_eq_true rfl, Nat.le_of_ble_eq_true rfl, Nat.le_of_ble_eq_true rfl, Nat.le_of_ble_eq_true rfl⟩ (by decide) zx_E43 rfl rfl hl.1 rfl (Nat.le_of_ble_eq_true rfl) dL_law_291 (fun H locs hW hS => ?_)
  refine lv_icmp_eq (tgt := 781) hx hb dL_law_294 (by decide) (fun _ => ?_) (fun q => absurd rfl q)
  exact hnext S2 _ _ _ h3 hW hS hl
set_option maxHeartbeats 4000000 in
set_option maxRecDepth 100000 in
theorem lx_c5 {p : Program} {l : Launch} {e : Env} {s : State} {m : MethodId} {below : List Frame} {meth : Method} {c : Code} {D : va_G} {a : Nat → Nat} {cs : zx_C} {b L : Nat} {xs : Nat → Int32} (F : zx_F D a cs p m c cL_law 4 s #[Value.ref b] RL meth) (hX : va_X b L xs s s.heap) (hbl : b < s.heap.size) (hA : ∀ k, k < 62 → s.heap.size ≤ a k) (hL : L ≤ 3072) {fu : Nat} {I : St → Prop} (hI : lx_h5 fu I) {x3 : Int32} {i : Nat} (e3 : x3 = nI i) (hi : i + 5 < L) (hnext : ∀ (S : St) (H : Heap) (locs : List Loc) (ls : Array Slot), I S → zx_W D a cs S H → va_S (fun q : Nat => s.heap.size ≤ q) s.heap H locs → lv_has ls 4 [(0, .ref b), (1, .ref (a 0)), (2, .ref (a 43)), (3, .int x3)] → W p l e room_1 s m #[Value.ref b] below meth c H locs 600000 7302250 (lw_Z below #[Value.ref b] s) (F0 m 781 ls [])) (S : St) (H : Heap) (locs : List Loc) (ls : Array Slot) (hi0 : I S) (hW : zx_W D a cs S H) (hS : va_S (fun q : Nat => s.heap.size ≤ q) s.heap H locs) (hl : lv_has ls 4 [(0, .ref b), (1, .ref (a 0)), (2, .ref (a 43)), (3, .int x3)]) : W p l e room_1 s m #[Value.ref b] below meth c H locs 600000 7302250 (lw_Z below #[Value.ref b] s) (F0 m 299 ls []) := by
  obtain ⟨⟨hx, hb, hml, hown, hts⟩, hlk, hK, hJ, hN⟩ := id F
  have hbA : ¬ (fun q : Nat => s.heap.size ≤ q) b := Nat.not_le.mpr hbl
  obtain ⟨r, S1, S2, h1, h2, h3⟩ := hI (xs (x3 + 1).toNatClampNeg) (xs (x3 + 2).toNatClampNeg) S hi0
  have hin1 : vp_in (x3 + 1) L := lx_in (j := 1) e3 (by omega) hL
  have hin2 : vp_in (x3 + 2) L := lx_in (j := 2) e3 (by omega) hL
  refine lv_aload_n hx hb dL_law_299 rfl (lv_at hl 1 rfl) ?_
  refine lv_aload_n hx hb dL_law_300 rfl (lv_at hl 0 rfl) ?_
  refine lv_iload_n hx hb dL_law_301 rfl (lv_at hl 3 rfl) ?_
  refine lv_iconst (v := 1) hx hb dL_law_302 (by decide) ?_
  refine lv_iadd hx hb dL_law_303 ?_
  refine va_sld hx hb hX hbl hbA hS hin1 dL_law_304 ?_
  refine lv_aload_n hx hb dL_law_305 rfl (lv_at hl 0 rfl) ?_
  refine lv_iload_n hx hb dL_law_306 rfl (lv_at hl 3 rfl) ?_
  refine lv_iconst (v := 2) hx hb dL_law_307 (by decide) ?_
  refine lv_iadd hx hb dL_law_308 ?_
  refine va_sld hx hb hX hbl hbA hS hin2 dL_law_309 ?_
  refine lx_V (q := (RX8, TX8, 11)) (As := [.int (xs (x3 + 1).toNatClampNeg), .int (xs (x3 + 2).toNatClampNeg)]) (rest := []) F hA hW hS (c_X8_start l D a cs fu (xs (x3 + 1).toNatClampNeg) (xs (x3 + 2).toNatClampNeg) S r S1 h1) Y_X8_start wi_X8_start ws_X8_start wm_L_36 ⟨rfl, rfl, Nat.le_of_ble_eq_true rfl, Nat.le_of_ble_eq_true rfl, Nat.le_of_ble_eq_true rfl, Nat.le_of_ble_eq_true rfl⟩ (by decide) zx_E0 rfl rfl hl.1 rfl (Nat.le_of_ble_eq_true rfl) dL_law_310 (fun H locs hW hS => ?_)
  refine lv_aload_n hx hb dL_law_313 rfl (lv_at hl 2 rfl) ?_
  refine lv_aload_n hx hb dL_law_314 rfl (lv_at hl 0 rfl) ?_
  refine lv_iload_n hx hb dL_law_315 rfl (lv_at hl 3 rfl) ?_
  refine lv_iconst (v := 1) hx hb dL_law_316 (by decide) ?_
  refine lv_iadd hx hb dL_law_317 ?_
  refine va_sld hx hb hX hbl hbA hS hin1 dL_law_318 ?_
  refine lv_aload_n hx hb dL_law_319 rfl (lv_at hl 0 rfl) ?_
  refine lv_iload_n hx hb dL_law_320 rfl (lv_at hl 3 rfl) ?_
  refine lv_iconst (v := 2) hx hb dL_law_321 (by decide) ?_
  refine lv_iadd hx hb dL_law_322 ?_
  refine va_sld hx hb hX hbl hbA hS hin2 dL_law_323 ?_
  refine lx_V (q := (RX9, TX9, 35)) (As := [.int (xs (x3 + 1).toNatClampNeg), .int (xs (x3 + 2).toNatClampNeg)]) (rest := [.int r]) F hA hW hS (c_X9_start l D a cs (xs (x3 + 1).toNatClampNeg) (xs (x3 + 2).toNatClampNeg) S1 r S2 h2) Y_X9_start wi_X9_start ws_X9_start wm_L_39 ⟨rfl, rfl, Nat.le_of_ble_eq_true rfl, Nat.le_of_ble_eq_true rfl, Nat.le_of_ble_eq_true rfl, Nat.le_of_ble_eq_true rfl⟩ (by decide) zx_E43 rfl rfl hl.1 rfl (Nat.le_of_ble_eq_true rfl) dL_law_324 (fun H locs hW hS => ?_)
  refine lv_icmp_eq (tgt := 781) hx hb dL_law_327 (by decide) (fun _ => ?_) (fun q => absurd rfl q)
  exact hnext S2 _ _ _ h3 hW hS hl
set_option maxHeartbeats 4000000 in
set_option maxRecDepth 100000 in
theorem lx_c6 {p : Program} {l : Launch} {e : Env} {s : State} {m : MethodId} {below : List Frame} {meth : Method} {c : Code} {D : va_G} {a : Nat → Nat} {cs : zx_C} {b L : Nat} {xs : Nat → Int32} (F : zx_F D a cs p m c cL_law 4 s #[Value.ref b] RL meth) (hX : va_X b L xs s s.heap) (hbl : b < s.heap.size) (hA : ∀ k, k < 62 → s.heap.size ≤ a k) (hL : L ≤ 3072) {fu : Nat} {I : St → Prop} (hI : lx_h6 fu I) {x3 : Int32} {i : Nat} (e3 : x3 = nI i) (hi : i + 5 < L) (hnext : ∀ (S : St) (H : Heap) (locs : List Loc) (ls : Array Slot), I S → zx_W D a cs S H → va_S (fun q : Nat => s.heap.size ≤ q) s.heap H locs → lv_has ls 4 [(0, .ref b), (1, .ref (a 0)), (2, .ref (a 43)), (3, .int x3)] → W p l e room_1 s m #[Value.ref b] below meth c H locs 600000 7302250 (lw_Z below #[Value.ref b] s) (F0 m 781 ls [])) (S : St) (H : Heap) (locs : List Loc) (ls : Array Slot) (hi0 : I S) (hW : zx_W D a cs S H) (hS : va_S (fun q : Nat => s.heap.size ≤ q) s.heap H locs) (hl : lv_has ls 4 [(0, .ref b), (1, .ref (a 0)), (2, .ref (a 43)), (3, .int x3)]) : W p l e room_1 s m #[Value.ref b] below meth c H locs 600000 7302250 (lw_Z below #[Value.ref b] s) (F0 m 332 ls []) := by
  obtain ⟨⟨hx, hb, hml, hown, hts⟩, hlk, hK, hJ, hN⟩ := id F
  have hbA : ¬ (fun q : Nat => s.heap.size ≤ q) b := Nat.not_le.mpr hbl
  obtain ⟨r, S1, S2, h1, h2, h3⟩ := hI (xs (x3 + 1).toNatClampNeg) (xs (x3 + 2).toNatClampNeg) (xs (x3 + 3).toNatClampNeg) S hi0
  have hin1 : vp_in (x3 + 1) L := lx_in (j := 1) e3 (by omega) hL
  have hin2 : vp_in (x3 + 2) L := lx_in (j := 2) e3 (by omega) hL
  have hin3 : vp_in (x3 + 3) L := lx_in (j := 3) e3 (by omega) hL
  refine lv_aload_n hx hb dL_law_332 rfl (lv_at hl 1 rfl) ?_
  refine lv_aload_n hx hb dL_law_333 rfl (lv_at hl 0 rfl) ?_
  refine lv_iload_n hx hb dL_law_334 rfl (lv_at hl 3 rfl) ?_
  refine lv_iconst (v := 1) hx hb dL_law_335 (by decide) ?_
  refine lv_iadd hx hb dL_law_336 ?_
  refine va_sld hx hb hX hbl hbA hS hin1 dL_law_337 ?_
  refine lv_aload_n hx hb dL_law_338 rfl (lv_at hl 0 rfl) ?_
  refine lv_iload_n hx hb dL_law_339 rfl (lv_at hl 3 rfl) ?_
  refine lv_iconst (v := 2) hx hb dL_law_340 (by decide) ?_
  refine lv_iadd hx hb dL_law_341 ?_
  refine va_sld hx hb hX hbl hbA hS hin2 dL_law_342 ?_
  refine lv_aload_n hx hb dL_law_343 rfl (lv_at hl 0 rfl) ?_
  refine lv_iload_n hx hb dL_law_344 rfl (lv_at hl 3 rfl) ?_
  refine lv_iconst (v := 3) hx hb dL_law_345 (by decide) ?_
  refine lv_iadd hx hb dL_law_346 ?_
  refine va_sld hx hb hX hbl hbA hS hin3 dL_law_347 ?_
  refine lx_V (q := (RX8, TX8, 11)) (As := [.int (xs (x3 + 1).toNatClampNeg), .int (xs (x3 + 2).toNatClampNeg), .int (xs (x3 + 3).toNatClampNeg)]) (rest := []) F hA hW hS (c_X8_place l D a cs fu (xs (x3 + 1).toNatClampNeg) (xs (x3 + 2).toNatClampNeg) (xs (x3 + 3).toNatClampNeg) S r S1 h1) Y_X8_place wi_X8_place ws_X8_place wm_L_40 ⟨rfl, rfl, Nat.le_of_ble_eq_true rfl, Nat.le_of_ble_eq_true rfl, Nat.le_of_ble_eq_true rfl, Nat.le_of_ble_eq_true rfl⟩ (by decide) zx_E0 rfl rfl hl.1 rfl (Nat.le_of_ble_eq_true rfl) dL_law_348 (fun H locs hW hS => ?_)
  refine lv_aload_n hx hb dL_law_351 rfl (lv_at hl 2 rfl) ?_
  refine lv_aload_n hx hb dL_law_352 rfl (lv_at hl 0 rfl) ?_
  refine lv_iload_n hx hb dL_law_353 rfl (lv_at hl 3 rfl) ?_
  refine lv_iconst (v := 1) hx hb dL_law_354 (by decide) ?_
  refine lv_iadd hx hb dL_law_355 ?_
  refine va_sld hx hb hX hbl hbA hS hin1 dL_law_356 ?_
  refine lv_aload_n hx hb dL_law_357 rfl (lv_at hl 0 rfl) ?_
  refine lv_iload_n hx hb dL_law_358 rfl (lv_at hl 3 rfl) ?_
  refine lv_iconst (v := 2) hx hb dL_law_359 (by decide) ?_
  refine lv_iadd hx hb dL_law_360 ?_
  refine va_sld hx hb hX hbl hbA hS hin2 dL_law_361 ?_
  refine lv_aload_n hx hb dL_law_362 rfl (lv_at hl 0 rfl) ?_
  refine lv_iload_n hx hb dL_law_363 rfl (lv_at hl 3 rfl) ?_
  refine lv_iconst (v := 3) hx hb dL_law_364 (by decide) ?_
  refine lv_iadd hx hb dL_law_365 ?_
  refine va_sld hx hb hX hbl hbA hS hin3 dL_law_366 ?_
  refine lx_V (q := (RX9, TX9, 35)) (As := [.int (xs (x3 + 1).toNatClampNeg), .int (xs (x3 + 2).toNatClampNeg), .int (xs (x3 + 3).toNatClampNeg)]) (rest := [.int r]) F hA hW hS (c_X9_place l D a cs fu (xs (x3 + 1).toNatClampNeg) (xs (x3 + 2).toNatClampNeg) (xs (x3 + 3).toNatClampNeg) S1 r S2 h2) Y_X9_place wi_X9_place ws_X9_place wm_L_44 ⟨rfl, rfl, Nat.le_of_ble_eq_true rfl, Nat.le_of_ble_eq_true rfl, Nat.le_of_ble_eq_true rfl, Nat.le_of_ble_eq_true rfl⟩ (by decide) zx_E43 rfl rfl hl.1 rfl (Nat.le_of_ble_eq_true rfl) dL_law_367 (fun H locs hW hS => ?_)
  refine lv_icmp_eq (tgt := 781) hx hb dL_law_370 (by decide) (fun _ => ?_) (fun q => absurd rfl q)
  exact hnext S2 _ _ _ h3 hW hS hl
set_option maxHeartbeats 4000000 in
set_option maxRecDepth 100000 in
theorem lx_c7 {p : Program} {l : Launch} {e : Env} {s : State} {m : MethodId} {below : List Frame} {meth : Method} {c : Code} {D : va_G} {a : Nat → Nat} {cs : zx_C} {b L : Nat} {xs : Nat → Int32} (F : zx_F D a cs p m c cL_law 4 s #[Value.ref b] RL meth) (hX : va_X b L xs s s.heap) (hbl : b < s.heap.size) (hA : ∀ k, k < 62 → s.heap.size ≤ a k) (hL : L ≤ 3072) {fu : Nat} {I : St → Prop} (hI : lx_h7 fu I) {x3 : Int32} {i : Nat} (e3 : x3 = nI i) (hi : i + 5 < L) (hnext : ∀ (S : St) (H : Heap) (locs : List Loc) (ls : Array Slot), I S → zx_W D a cs S H → va_S (fun q : Nat => s.heap.size ≤ q) s.heap H locs → lv_has ls 4 [(0, .ref b), (1, .ref (a 0)), (2, .ref (a 43)), (3, .int x3)] → W p l e room_1 s m #[Value.ref b] below meth c H locs 600000 7302250 (lw_Z below #[Value.ref b] s) (F0 m 781 ls [])) (S : St) (H : Heap) (locs : List Loc) (ls : Array Slot) (hi0 : I S) (hW : zx_W D a cs S H) (hS : va_S (fun q : Nat => s.heap.size ≤ q) s.heap H locs) (hl : lv_has ls 4 [(0, .ref b), (1, .ref (a 0)), (2, .ref (a 43)), (3, .int x3)]) : W p l e room_1 s m #[Value.ref b] below meth c H locs 600000 7302250 (lw_Z below #[Value.ref b] s) (F0 m 375 ls []) := by
  obtain ⟨⟨hx, hb, hml, hown, hts⟩, hlk, hK, hJ, hN⟩ := id F
  have hbA : ¬ (fun q : Nat => s.heap.size ≤ q) b := Nat.not_le.mpr hbl
  obtain ⟨r, S1, S2, h1, h2, h3⟩ := hI (xs (x3 + 1).toNatClampNeg) (xs (x3 + 2).toNatClampNeg) (xs (x3 + 3).toNatClampNeg) S hi0
  have hin1 : vp_in (x3 + 1) L := lx_in (j := 1) e3 (by omega) hL
  have hin2 : vp_in (x3 + 2) L := lx_in (j := 2) e3 (by omega) hL
  have hin3 : vp_in (x3 + 3) L := lx_in (j := 3) e3 (by omega) hL
  refine lv_aload_n hx hb dL_law_375 rfl (lv_at hl 1 rfl) ?_
  refine lv_aload_n hx hb dL_law_376 rfl (lv_at hl 0 rfl) ?_
  refine lv_iload_n hx hb dL_law_377 rfl (lv_at hl 3 rfl) ?_
  refine lv_iconst (v := 1) hx hb dL_law_378 (by decide) ?_
  refine lv_iadd hx hb dL_law_379 ?_
  refine va_sld hx hb hX hbl hbA hS hin1 dL_law_380 ?_
  refine lv_aload_n hx hb dL_law_381 rfl (lv_at hl 0 rfl) ?_
  refine lv_iload_n hx hb dL_law_382 rfl (lv_at hl 3 rfl) ?_
  refine lv_iconst (v := 2) hx hb dL_law_383 (by decide) ?_
  refine lv_iadd hx hb dL_law_384 ?_
  refine va_sld hx hb hX hbl hbA hS hin2 dL_law_385 ?_
  refine lv_aload_n hx hb dL_law_386 rfl (lv_at hl 0 rfl) ?_
  refine lv_iload_n hx hb dL_law_387 rfl (lv_at hl 3 rfl) ?_
  refine lv_iconst (v := 3) hx hb dL_law_388 (by decide) ?_
  refine lv_iadd hx hb dL_law_389 ?_
  refine va_sld hx hb hX hbl hbA hS hin3 dL_law_390 ?_
  refine lx_V (q := (RX8, TX8, 11)) (As := [.int (xs (x3 + 1).toNatClampNeg), .int (xs (x3 + 2).toNatClampNeg), .int (xs (x3 + 3).toNatClampNeg)]) (rest := []) F hA hW hS (c_X8_rank l D a cs fu (xs (x3 + 1).toNatClampNeg) (xs (x3 + 2).toNatClampNeg) (xs (x3 + 3).toNatClampNeg) S r S1 h1) Y_X8_rank wi_X8_rank ws_X8_rank wm_L_45 ⟨rfl, rfl, Nat.le_of_ble_eq_true rfl, Nat.le_of_ble_eq_true rfl, Nat.le_of_ble_eq_true rfl, Nat.le_of_ble_eq_true rfl⟩ (by decide) zx_E0 rfl rfl hl.1 rfl (Nat.le_of_ble_eq_true rfl) dL_law_391 (fun H locs hW hS => ?_)
  refine lv_aload_n hx hb dL_law_394 rfl (lv_at hl 2 rfl) ?_
  refine lv_aload_n hx hb dL_law_395 rfl (lv_at hl 0 rfl) ?_
  refine lv_iload_n hx hb dL_law_396 rfl (lv_at hl 3 rfl) ?_
  refine lv_iconst (v := 1) hx hb dL_law_397 (by decide) ?_
  refine lv_iadd hx hb dL_law_398 ?_
  refine va_sld hx hb hX hbl hbA hS hin1 dL_law_399 ?_
  refine lv_aload_n hx hb dL_law_400 rfl (lv_at hl 0 rfl) ?_
  refine lv_iload_n hx hb dL_law_401 rfl (lv_at hl 3 rfl) ?_
  refine lv_iconst (v := 2) hx hb dL_law_402 (by decide) ?_
  refine lv_iadd hx hb dL_law_403 ?_
  refine va_sld hx hb hX hbl hbA hS hin2 dL_law_404 ?_
  refine lv_aload_n hx hb dL_law_405 rfl (lv_at hl 0 rfl) ?_
  refine lv_iload_n hx hb dL_law_406 rfl (lv_at hl 3 rfl) ?_
  refine lv_iconst (v := 3) hx hb dL_law_407 (by decide) ?_
  refine lv_iadd hx hb dL_law_408 ?_
  refine va_sld hx hb hX hbl hbA hS hin3 dL_law_409 ?_
  refine lx_V (q := (RX9, TX9, 35)) (As := [.int (xs (x3 + 1).toNatClampNeg), .int (xs (x3 + 2).toNatClampNeg), .int (xs (x3 + 3).toNatClampNeg)]) (rest := [.int r]) F hA hW hS (c_X9_rank l D a cs fu (xs (x3 + 1).toNatClampNeg) (xs (x3 + 2).toNatClampNeg) (xs (x3 + 3).toNatClampNeg) S1 r S2 h2) Y_X9_rank wi_X9_rank ws_X9_rank wm_L_48 ⟨rfl, rfl, Nat.le_of_ble_eq_true rfl, Nat.le_of_ble_eq_true rfl, Nat.le_of_ble_eq_true rfl, Nat.le_of_ble_eq_true rfl⟩ (by decide) zx_E43 rfl rfl hl.1 rfl (Nat.le_of_ble_eq_true rfl) dL_law_410 (fun H locs hW hS => ?_)
  refine lv_icmp_eq (tgt := 781) hx hb dL_law_413 (by decide) (fun _ => ?_) (fun q => absurd rfl q)
  exact hnext S2 _ _ _ h3 hW hS hl
set_option maxHeartbeats 4000000 in
set_option maxRecDepth 100000 in
theorem lx_c8 {p : Program} {l : Launch} {e : Env} {s : State} {m : MethodId} {below : List Frame} {meth : Method} {c : Code} {D : va_G} {a : Nat → Nat} {cs : zx_C} {b L : Nat} {xs : Nat → Int32} (F : zx_F D a cs p m c cL_law 4 s #[Value.ref b] RL meth) (hX : va_X b L xs s s.heap) (hbl : b < s.heap.size) (hA : ∀ k, k < 62 → s.heap.size ≤ a k) (hL : L ≤ 3072) {fu : Nat} {I : St → Prop} (hI : lx_h8 fu I) {x3 : Int32} {i : Nat} (e3 : x3 = nI i) (hi : i + 5 < L) (hnext : ∀ (S : St) (H : Heap) (locs : List Loc) (ls : Array Slot), I S → zx_W D a cs S H → va_S (fun q : Nat => s.heap.size ≤ q) s.heap H locs → lv_has ls 4 [(0, .ref b), (1, .ref (a 0)), (2, .ref (a 43)), (3, .int x3)] → W p l e room_1 s m #[Value.ref b] below meth c H locs 600000 7302250 (lw_Z below #[Value.ref b] s) (F0 m 781 ls [])) (S : St) (H : Heap) (locs : List Loc) (ls : Array Slot) (hi0 : I S) (hW : zx_W D a cs S H) (hS : va_S (fun q : Nat => s.heap.size ≤ q) s.heap H locs) (hl : lv_has ls 4 [(0, .ref b), (1, .ref (a 0)), (2, .ref (a 43)), (3, .int x3)]) : W p l e room_1 s m #[Value.ref b] below meth c H locs 600000 7302250 (lw_Z below #[Value.ref b] s) (F0 m 418 ls []) := by
  obtain ⟨⟨hx, hb, hml, hown, hts⟩, hlk, hK, hJ, hN⟩ := id F
  have hbA : ¬ (fun q : Nat => s.heap.size ≤ q) b := Nat.not_le.mpr hbl
  obtain ⟨r, S1, S2, h1, h2, h3⟩ := hI (xs (x3 + 1).toNatClampNeg) (xs (x3 + 2).toNatClampNeg) (xs (x3 + 3).toNatClampNeg) S hi0
  have hin1 : vp_in (x3 + 1) L := lx_in (j := 1) e3 (by omega) hL
  have hin2 : vp_in (x3 + 2) L := lx_in (j := 2) e3 (by omega) hL
  have hin3 : vp_in (x3 + 3) L := lx_in (j := 3) e3 (by omega) hL
  refine lv_aload_n hx hb dL_law_418 rfl (lv_at hl 1 rfl) ?_
  refine lv_aload_n hx hb dL_law_419 rfl (lv_at hl 0 rfl) ?_
  refine lv_iload_n hx hb dL_law_420 rfl (lv_at hl 3 rfl) ?_
  refine lv_iconst (v := 1) hx hb dL_law_421 (by decide) ?_
  refine lv_iadd hx hb dL_law_422 ?_
  refine va_sld hx hb hX hbl hbA hS hin1 dL_law_423 ?_
  refine lv_aload_n hx hb dL_law_424 rfl (lv_at hl 0 rfl) ?_
  refine lv_iload_n hx hb dL_law_425 rfl (lv_at hl 3 rfl) ?_
  refine lv_iconst (v := 2) hx hb dL_law_426 (by decide) ?_
  refine lv_iadd hx hb dL_law_427 ?_
  refine va_sld hx hb hX hbl hbA hS hin2 dL_law_428 ?_
  refine lv_aload_n hx hb dL_law_429 rfl (lv_at hl 0 rfl) ?_
  refine lv_iload_n hx hb dL_law_430 rfl (lv_at hl 3 rfl) ?_
  refine lv_iconst (v := 3) hx hb dL_law_431 (by decide) ?_
  refine lv_iadd hx hb dL_law_432 ?_
  refine va_sld hx hb hX hbl hbA hS hin3 dL_law_433 ?_
  refine lx_V (q := (RX8, TX8, 11)) (As := [.int (xs (x3 + 1).toNatClampNeg), .int (xs (x3 + 2).toNatClampNeg), .int (xs (x3 + 3).toNatClampNeg)]) (rest := []) F hA hW hS (c_X8_pack l D a cs fu (xs (x3 + 1).toNatClampNeg) (xs (x3 + 2).toNatClampNeg) (xs (x3 + 3).toNatClampNeg) S r S1 h1) Y_X8_pack wi_X8_pack ws_X8_pack wm_L_49 ⟨rfl, rfl, Nat.le_of_ble_eq_true rfl, Nat.le_of_ble_eq_true rfl, Nat.le_of_ble_eq_true rfl, Nat.le_of_ble_eq_true rfl⟩ (by decide) zx_E0 rfl rfl hl.1 rfl (Nat.le_of_ble_eq_true rfl) dL_law_434 (fun H locs hW hS => ?_)
  refine lv_aload_n hx hb dL_law_437 rfl (lv_at hl 2 rfl) ?_
  refine lv_aload_n hx hb dL_law_438 rfl (lv_at hl 0 rfl) ?_
  refine lv_iload_n hx hb dL_law_439 rfl (lv_at hl 3 rfl) ?_
  refine lv_iconst (v := 1) hx hb dL_law_440 (by decide) ?_
  refine lv_iadd hx hb dL_law_441 ?_
  refine va_sld hx hb hX hbl hbA hS hin1 dL_law_442 ?_
  refine lv_aload_n hx hb dL_law_443 rfl (lv_at hl 0 rfl) ?_
  refine lv_iload_n hx hb dL_law_444 rfl (lv_at hl 3 rfl) ?_
  refine lv_iconst (v := 2) hx hb dL_law_445 (by decide) ?_
  refine lv_iadd hx hb dL_law_446 ?_
  refine va_sld hx hb hX hbl hbA hS hin2 dL_law_447 ?_
  refine lv_aload_n hx hb dL_law_448 rfl (lv_at hl 0 rfl) ?_
  refine lv_iload_n hx hb dL_law_449 rfl (lv_at hl 3 rfl) ?_
  refine lv_iconst (v := 3) hx hb dL_law_450 (by decide) ?_
  refine lv_iadd hx hb dL_law_451 ?_
  refine va_sld hx hb hX hbl hbA hS hin3 dL_law_452 ?_
  refine lx_V (q := (RX9, TX9, 35)) (As := [.int (xs (x3 + 1).toNatClampNeg), .int (xs (x3 + 2).toNatClampNeg), .int (xs (x3 + 3).toNatClampNeg)]) (rest := [.int r]) F hA hW hS (c_X9_pack l D a cs fu (xs (x3 + 1).toNatClampNeg) (xs (x3 + 2).toNatClampNeg) (xs (x3 + 3).toNatClampNeg) S1 r S2 h2) Y_X9_pack wi_X9_pack ws_X9_pack wm_L_52 ⟨rfl, rfl, Nat.le_of_ble_eq_true rfl, Nat.le_of_ble_eq_true rfl, Nat.le_of_ble_eq_true rfl, Nat.le_of_ble_eq_true rfl⟩ (by decide) zx_E43 rfl rfl hl.1 rfl (Nat.le_of_ble_eq_true rfl) dL_law_453 (fun H locs hW hS => ?_)
  refine lv_icmp_eq (tgt := 781) hx hb dL_law_456 (by decide) (fun _ => ?_) (fun q => absurd rfl q)
  exact hnext S2 _ _ _ h3 hW hS hl
set_option maxHeartbeats 4000000 in
set_option maxRecDepth 100000 in
theorem lx_c9 {p : Program} {l : Launch} {e : Env} {s : State} {m : MethodId} {below : List Frame} {meth : Method} {c : Code} {D : va_G} {a : Nat → Nat} {cs : zx_C} {b L : Nat} {xs : Nat → Int32} (F : zx_F D a cs p m c cL_law 4 s #[Value.ref b] RL meth) (hX : va_X b L xs s s.heap) (hbl : b < s.heap.size) (hA : ∀ k, k < 62 → s.heap.size ≤ a k) (hL : L ≤ 3072) {fu : Nat} {I : St → Prop} (hI : lx_h9 fu I) {x3 : Int32} {i : Nat} (e3 : x3 = nI i) (hi : i + 5 < L) (hnext : ∀ (S : St) (H : Heap) (locs : List Loc) (ls : Array Slot), I S → zx_W D a cs S H → va_S (fun q : Nat => s.heap.size ≤ q) s.heap H locs → lv_has ls 4 [(0, .ref b), (1, .ref (a 0)), (2, .ref (a 43)), (3, .int x3)] → W p l e room_1 s m #[Value.ref b] below meth c H locs 600000 7302250 (lw_Z below #[Value.ref b] s) (F0 m 781 ls [])) (S : St) (H : Heap) (locs : List Loc) (ls : Array Slot) (hi0 : I S) (hW : zx_W D a cs S H) (hS : va_S (fun q : Nat => s.heap.size ≤ q) s.heap H locs) (hl : lv_has ls 4 [(0, .ref b), (1, .ref (a 0)), (2, .ref (a 43)), (3, .int x3)]) : W p l e room_1 s m #[Value.ref b] below meth c H locs 600000 7302250 (lw_Z below #[Value.ref b] s) (F0 m 461 ls []) := by
  obtain ⟨⟨hx, hb, hml, hown, hts⟩, hlk, hK, hJ, hN⟩ := id F
  have hbA : ¬ (fun q : Nat => s.heap.size ≤ q) b := Nat.not_le.mpr hbl
  obtain ⟨r, S1, S2, h1, h2, h3⟩ := hI (xs (x3 + 1).toNatClampNeg) S hi0
  have hin1 : vp_in (x3 + 1) L := lx_in (j := 1) e3 (by omega) hL
  refine lv_aload_n hx hb dL_law_461 rfl (lv_at hl 1 rfl) ?_
  refine lv_aload_n hx hb dL_law_462 rfl (lv_at hl 0 rfl) ?_
  refine lv_iload_n hx hb dL_law_463 rfl (lv_at hl 3 rfl) ?_
  refine lv_iconst (v := 1) hx hb dL_law_464 (by decide) ?_
  refine lv_iadd hx hb dL_law_465 ?_
  refine va_sld hx hb hX hbl hbA hS hin1 dL_law_466 ?_
  refine lx_V (q := (RX8, TX8, 11)) (As := [.int (xs (x3 + 1).toNatClampNeg)]) (rest := []) F hA hW hS (c_X8_unpack l D a cs fu (xs (x3 + 1).toNatClampNeg) S r S1 h1) Y_X8_unpack wi_X8_unpack ws_X8_unpack wm_L_53 ⟨rfl, rfl, Nat.le_of_ble_eq_true rfl, Nat.le_of_ble_eq_true rfl, Nat.le_of_ble_eq_true rfl, Nat.le_of_ble_eq_true rfl⟩ (by decide) zx_E0 rfl rfl hl.1 rfl (Nat.le_of_ble_eq_true rfl) dL_law_467 (fun H locs hW hS => ?_)
  refine lv_aload_n hx hb dL_law_470 rfl (lv_at hl 2 rfl) ?_
  refine lv_aload_n hx hb dL_law_471 rfl (lv_at hl 0 rfl) ?_
  refine lv_iload_n hx hb dL_law_472 rfl (lv_at hl 3 rfl) ?_
  refine lv_iconst (v := 1) hx hb dL_law_473 (by decide) ?_
  refine lv_iadd hx hb dL_law_474 ?_
  refine va_sld hx hb hX hbl hbA hS hin1 dL_law_475 ?_
  refine lx_V (q := (RX9, TX9, 35)) (As := [.int (xs (x3 + 1).toNatClampNeg)]) (rest := [.int r]) F hA hW hS (c_X9_unpack l D a cs fu (xs (x3 + 1).toNatClampNeg) S1 r S2 h2) Y_X9_unpack wi_X9_unpack ws_X9_unpack wm_L_56 ⟨rfl, rfl, Nat.le_of_ble_eq_true rfl, Nat.le_of_ble_eq_true rfl, Nat.le_of_ble_eq_true rfl, Nat.le_of_ble_eq_true rfl⟩ (by decide) zx_E43 rfl rfl hl.1 rfl (Nat.le_of_ble_eq_true rfl) dL_law_476 (fun H locs hW hS => ?_)
  refine lv_icmp_eq (tgt := 781) hx hb dL_law_479 (by decide) (fun _ => ?_) (fun q => absurd rfl q)
  exact hnext S2 _ _ _ h3 hW hS hl
set_option maxHeartbeats 4000000 in
set_option maxRecDepth 100000 in
theorem lx_c10 {p : Program} {l : Launch} {e : Env} {s : State} {m : MethodId} {below : List Frame} {meth : Method} {c : Code} {D : va_G} {a : Nat → Nat} {cs : zx_C} {b L : Nat} {xs : Nat → Int32} (F : zx_F D a cs p m c cL_law 4 s #[Value.ref b] RL meth) (hX : va_X b L xs s s.heap) (hbl : b < s.heap.size) (hA : ∀ k, k < 62 → s.heap.size ≤ a k) (hL : L ≤ 3072) {fu : Nat} {I : St → Prop} (hI : lx_h10 fu I) {x3 : Int32} {i : Nat} (e3 : x3 = nI i) (hi : i + 5 < L) (hnext : ∀ (S : St) (H : Heap) (locs : List Loc) (ls : Array Slot), I S → zx_W D a cs S H → va_S (fun q : Nat => s.heap.size ≤ q) s.heap H locs → lv_has ls 4 [(0, .ref b), (1, .ref (a 0)), (2, .ref (a 43)), (3, .int x3)] → W p l e room_1 s m #[Value.ref b] below meth c H locs 600000 7302250 (lw_Z below #[Value.ref b] s) (F0 m 781 ls [])) (S : St) (H : Heap) (locs : List Loc) (ls : Array Slot) (hi0 : I S) (hW : zx_W D a cs S H) (hS : va_S (fun q : Nat => s.heap.size ≤ q) s.heap H locs) (hl : lv_has ls 4 [(0, .ref b), (1, .ref (a 0)), (2, .ref (a 43)), (3, .int x3)]) : W p l e room_1 s m #[Value.ref b] below meth c H locs 600000 7302250 (lw_Z below #[Value.ref b] s) (F0 m 484 ls []) := by
  obtain ⟨⟨hx, hb, hml, hown, hts⟩, hlk, hK, hJ, hN⟩ := id F
  have hbA : ¬ (fun q : Nat => s.heap.size ≤ q) b := Nat.not_le.mpr hbl
  obtain ⟨r, S1, S2, h1, h2, h3⟩ := hI (xs (x3 + 1).toNatClampNeg) S hi0
  have hin1 : vp_in (x3 + 1) L := lx_in (j := 1) e3 (by omega) hL
  refine lv_aload_n hx hb dL_law_484 rfl (lv_at hl 1 rfl) ?_
  refine lv_aload_n hx hb dL_law_485 rfl (lv_at hl 0 rfl) ?_
  refine lv_iload_n hx hb dL_law_486 rfl (lv_at hl 3 rfl) ?_
  refine lv_iconst (v := 1) hx hb dL_law_487 (by decide) ?_
  refine lv_iadd hx hb dL_law_488 ?_
  refine va_sld hx hb hX hbl hbA hS hin1 dL_law_489 ?_
  refine lx_V (q := (RX8, TX8, 11)) (As := [.int (xs (x3 + 1).toNatClampNeg)]) (rest := []) F hA hW hS (c_X8_fault l D a cs (xs (x3 + 1).toNatClampNeg) S r S1 h1) Y_X8_fault wi_X8_fault ws_X8_fault wm_L_57 ⟨rfl, rfl, Nat.le_of_ble_eq_true rfl, Nat.le_of_ble_eq_true rfl, Nat.le_of_ble_eq_true rfl, Nat.le_of_ble_eq_true rfl⟩ (by decide) zx_E0 rfl rfl hl.1 rfl (Nat.le_of_ble_eq_true rfl) dL_law_490 (fun H locs hW hS => ?_)
  refine lv_aload_n hx hb dL_law_493 rfl (lv_at hl 2 rfl) ?_
  refine lv_aload_n hx hb dL_law_494 rfl (lv_at hl 0 rfl) ?_
  refine lv_iload_n hx hb dL_law_495 rfl (lv_at hl 3 rfl) ?_
  refine lv_iconst (v := 1) hx hb dL_law_496 (by decide) ?_
  refine lv_iadd hx hb dL_law_497 ?_
  refine va_sld hx hb hX hbl hbA hS hin1 dL_law_498 ?_
  refine lx_V (q := (RX9, TX9, 35)) (As := [.int (xs (x3 + 1).toNatClampNeg)]) (rest := [.int r]) F hA hW hS (c_X9_fault l D a cs (xs (x3 + 1).toNatClampNeg) S1 r S2 h2) Y_X9_fault wi_X9_fault ws_X9_fault wm_L_60 ⟨rfl, rfl, Nat.le_of_ble_eq_true rfl, Nat.le_of_ble_eq_true rfl, Nat.le_of_ble_eq_true rfl, Nat.le_of_ble_eq_true rfl⟩ (by decide) zx_E43 rfl rfl hl.1 rfl (Nat.le_of_ble_eq_true rfl) dL_law_499 (fun H locs hW hS => ?_)
  refine lv_icmp_eq (tgt := 781) hx hb dL_law_502 (by decide) (fun _ => ?_) (fun q => absurd rfl q)
  exact hnext S2 _ _ _ h3 hW hS hl
set_option maxHeartbeats 4000000 in
set_option maxRecDepth 100000 in
theorem lx_c11 {p : Program} {l : Launch} {e : Env} {s : State} {m : MethodId} {below : List Frame} {meth : Method} {c : Code} {D : va_G} {a : Nat → Nat} {cs : zx_C} {b L : Nat} {xs : Nat → Int32} (F : zx_F D a cs p m c cL_law 4 s #[Value.ref b] RL meth) (hX : va_X b L xs s s.heap) (hbl : b < s.heap.size) (hA : ∀ k, k < 62 → s.heap.size ≤ a k) (hL : L ≤ 3072) {fu : Nat} {I : St → Prop} (hI : lx_h11 fu I) {x3 : Int32} {i : Nat} (e3 : x3 = nI i) (hi : i + 5 < L) (hnext : ∀ (S : St) (H : Heap) (locs : List Loc) (ls : Array Slot), I S → zx_W D a cs S H → va_S (fun q : Nat => s.heap.size ≤ q) s.heap H locs → lv_has ls 4 [(0, .ref b), (1, .ref (a 0)), (2, .ref (a 43)), (3, .int x3)] → W p l e room_1 s m #[Value.ref b] below meth c H locs 600000 7302250 (lw_Z below #[Value.ref b] s) (F0 m 781 ls [])) (S : St) (H : Heap) (locs : List Loc) (ls : Array Slot) (hi0 : I S) (hW : zx_W D a cs S H) (hS : va_S (fun q : Nat => s.heap.size ≤ q) s.heap H locs) (hl : lv_has ls 4 [(0, .ref b), (1, .ref (a 0)), (2, .ref (a 43)), (3, .int x3)]) : W p l e room_1 s m #[Value.ref b] below meth c H locs 600000 7302250 (lw_Z below #[Value.ref b] s) (F0 m 507 ls []) := by
  obtain ⟨⟨hx, hb, hml, hown, hts⟩, hlk, hK, hJ, hN⟩ := id F
  have hbA : ¬ (fun q : Nat => s.heap.size ≤ q) b := Nat.not_le.mpr hbl
  obtain ⟨r, S1, S2, h1, h2, h3⟩ := hI (xs (x3 + 1).toNatClampNeg) S hi0
  have hin1 : vp_in (x3 + 1) L := lx_in (j := 1) e3 (by omega) hL
  refine lv_aload_n hx hb dL_law_507 rfl (lv_at hl 1 rfl) ?_
  refine lv_aload_n hx hb dL_law_508 rfl (lv_at hl 0 rfl) ?_
  refine lv_iload_n hx hb dL_law_509 rfl (lv_at hl 3 rfl) ?_
  refine lv_iconst (v := 1) hx hb dL_law_510 (by decide) ?_
  refine lv_iadd hx hb dL_law_511 ?_
  refine va_sld hx hb hX hbl hbA hS hin1 dL_law_512 ?_
  refine lx_V (q := (RX8, TX8, 11)) (As := [.int (xs (x3 + 1).toNatClampNeg)]) (rest := []) F hA hW hS (c_X8_written l D a cs (xs (x3 + 1).toNatClampNeg) S r S1 h1) Y_X8_written wi_X8_written ws_X8_written wm_L_61 ⟨rfl, rfl, Nat.le_of_ble_eq_true rfl, Nat.le_of_ble_eq_true rfl, Nat.le_of_ble_eq_true rfl, Nat.le_of_ble_eq_true rfl⟩ (by decide) zx_E0 rfl rfl hl.1 rfl (Nat.le_of_ble_eq_true rfl) dL_law_513 (fun H locs hW hS => ?_)
  refine lv_aload_n hx hb dL_law_516 rfl (lv_at hl 2 rfl) ?_
  refine lv_aload_n hx hb dL_law_517 rfl (lv_at hl 0 rfl) ?_
  refine lv_iload_n hx hb dL_law_518 rfl (lv_at hl 3 rfl) ?_
  refine lv_iconst (v := 1) hx hb dL_law_519 (by decide) ?_
  refine lv_iadd hx hb dL_law_520 ?_
  refine va_sld hx hb hX hbl hbA hS hin1 dL_law_521 ?_
  refine lx_V (q := (RX9, TX9, 35)) (As := [.int (xs (x3 + 1).toNatClampNeg)]) (rest := [.int r]) F hA hW hS (c_X9_written l D a cs (xs (x3 + 1).toNatClampNeg) S1 r S2 h2) Y_X9_written wi_X9_written ws_X9_written wm_L_64 ⟨rfl, rfl, Nat.le_of_ble_eq_true rfl, Nat.le_of_ble_eq_true rfl, Nat.le_of_ble_eq_true rfl, Nat.le_of_ble_eq_true rfl⟩ (by decide) zx_E43 rfl rfl hl.1 rfl (Nat.le_of_ble_eq_true rfl) dL_law_522 (fun H locs hW hS => ?_)
  refine lv_icmp_eq (tgt := 781) hx hb dL_law_525 (by decide) (fun _ => ?_) (fun q => absurd rfl q)
  exact hnext S2 _ _ _ h3 hW hS hl
set_option maxHeartbeats 4000000 in
set_option maxRecDepth 100000 in
theorem lx_c12 {p : Program} {l : Launch} {e : Env} {s : State} {m : MethodId} {below : List Frame} {meth : Method} {c : Code} {D : va_G} {a : Nat → Nat} {cs : zx_C} {b L : Nat} {xs : Nat → Int32} (F : zx_F D a cs p m c cL_law 4 s #[Value.ref b] RL meth) (hX : va_X b L xs s s.heap) (hbl : b < s.heap.size) (hA : ∀ k, k < 62 → s.heap.size ≤ a k) (hL : L ≤ 3072) {fu : Nat} {I : St → Prop} (hI : lx_h12 fu I) {x3 : Int32} {i : Nat} (e3 : x3 = nI i) (hi : i + 5 < L) (hnext : ∀ (S : St) (H : Heap) (locs : List Loc) (ls : Array Slot), I S → zx_W D a cs S H → va_S (fun q : Nat => s.heap.size ≤ q) s.heap H locs → lv_has ls 4 [(0, .ref b), (1, .ref (a 0)), (2, .ref (a 43)), (3, .int x3)] → W p l e room_1 s m #[Value.ref b] below meth c H locs 600000 7302250 (lw_Z below #[Value.ref b] s) (F0 m 781 ls [])) (S : St) (H : Heap) (locs : List Loc) (ls : Array Slot) (hi0 : I S) (hW : zx_W D a cs S H) (hS : va_S (fun q : Nat => s.heap.size ≤ q) s.heap H locs) (hl : lv_has ls 4 [(0, .ref b), (1, .ref (a 0)), (2, .ref (a 43)), (3, .int x3)]) : W p l e room_1 s m #[Value.ref b] below meth c H locs 600000 7302250 (lw_Z below #[Value.ref b] s) (F0 m 530 ls []) := by
  obtain ⟨⟨hx, hb, hml, hown, hts⟩, hlk, hK, hJ, hN⟩ := id F
  have hbA : ¬ (fun q : Nat => s.heap.size ≤ q) b := Nat.not_le.mpr hbl
  obtain ⟨r, S1, S2, h1, h2, h3⟩ := hI  S hi0
  refine lv_aload_n hx hb dL_law_530 rfl (lv_at hl 1 rfl) ?_
  refine lx_V (q := (RX8, TX8, 11)) (As := []) (rest := []) F hA hW hS (c_X8_take l D a cs  S r S1 h1) Y_X8_take wi_X8_take ws_X8_take wm_L_65 ⟨rfl, rfl, Nat.le_of_ble_eq_true rfl, Nat.le_of_ble_eq_true rfl, Nat.le_of_ble_eq_true rfl, Nat.le_of_ble_eq_true rfl⟩ (by decide) zx_E0 rfl rfl hl.1 rfl (Nat.le_of_ble_eq_true rfl) dL_law_531 (fun H locs hW hS => ?_)
  refine lv_aload_n hx hb dL_law_534 rfl (lv_at hl 2 rfl) ?_
  refine lx_V (q := (RX9, TX9, 35)) (As := []) (rest := [.int r]) F hA hW hS (c_X9_take l D a cs fu  S1 r S2 h2) Y_X9_take wi_X9_take ws_X9_take wm_L_69 ⟨rfl, rfl, Nat.le_of_ble_eq_true rfl, Nat.le_of_ble_eq_true rfl, Nat.le_of_ble_eq_true rfl, Nat.le_of_ble_eq_true rfl⟩ (by decide) zx_E43 rfl rfl hl.1 rfl (Nat.le_of_ble_eq_true rfl) dL_law_535 (fun H locs hW hS => ?_)
  refine lv_icmp_eq (tgt := 781) hx hb dL_law_538 (by decide) (fun _ => ?_) (fun q => absurd rfl q)
  exact hnext S2 _ _ _ h3 hW hS hl
set_option maxHeartbeats 4000000 in
set_option maxRecDepth 100000 in
theorem lx_c13 {p : Program} {l : Launch} {e : Env} {s : State} {m : MethodId} {below : List Frame} {meth : Method} {c : Code} {D : va_G} {a : Nat → Nat} {cs : zx_C} {b L : Nat} {xs : Nat → Int32} (F : zx_F D a cs p m c cL_law 4 s #[Value.ref b] RL meth) (hX : va_X b L xs s s.heap) (hbl : b < s.heap.size) (hA : ∀ k, k < 62 → s.heap.size ≤ a k) (hL : L ≤ 3072) {fu : Nat} {I : St → Prop} (hI : lx_h13 fu I) {x3 : Int32} {i : Nat} (e3 : x3 = nI i) (hi : i + 5 < L) (hnext : ∀ (S : St) (H : Heap) (locs : List Loc) (ls : Array Slot), I S → zx_W D a cs S H → va_S (fun q : Nat => s.heap.size ≤ q) s.heap H locs → lv_has ls 4 [(0, .ref b), (1, .ref (a 0)), (2, .ref (a 43)), (3, .int x3)] → W p l e room_1 s m #[Value.ref b] below meth c H locs 600000 7302250 (lw_Z below #[Value.ref b] s) (F0 m 781 ls [])) (S : St) (H : Heap) (locs : List Loc) (ls : Array Slot) (hi0 : I S) (hW : zx_W D a cs S H) (hS : va_S (fun q : Nat => s.heap.size ≤ q) s.heap H locs) (hl : lv_has ls 4 [(0, .ref b), (1, .ref (a 0)), (2, .ref (a 43)), (3, .int x3)]) : W p l e room_1 s m #[Value.ref b] below meth c H locs 600000 7302250 (lw_Z below #[Value.ref b] s) (F0 m 543 ls []) := by
  obtain ⟨⟨hx, hb, hml, hown, hts⟩, hlk, hK, hJ, hN⟩ := id F
  have hbA : ¬ (fun q : Nat => s.heap.size ≤ q) b := Nat.not_le.mpr hbl
  obtain ⟨r, S1, S2, h1, h2, h3⟩ := hI (xs (x3 + 1).toNatClampNeg) S hi0
  have hin1 : vp_in (x3 + 1) L := lx_in (j := 1) e3 (by omega) hL
  refine lv_aload_n hx hb dL_law_543 rfl (lv_at hl 1 rfl) ?_
  refine lv_aload_n hx hb dL_law_544 rfl (lv_at hl 0 rfl) ?_
  refine lv_iload_n hx hb dL_law_545 rfl (lv_at hl 3 rfl) ?_
  refine lv_iconst (v := 1) hx hb dL_law_546 (by decide) ?_
  refine lv_iadd hx hb dL_law_547 ?_
  refine va_sld hx hb hX hbl hbA hS hin1 dL_law_548 ?_
  refine lx_V (q := (RX8, TX8, 11)) (As := [.int (xs (x3 + 1).toNatClampNeg)]) (rest := []) F hA hW hS (c_X8_ideal l D a cs fu (xs (x3 + 1).toNatClampNeg) S r S1 h1) Y_X8_ideal wi_X8_ideal ws_X8_ideal wm_L_70 ⟨rfl, rfl, Nat.le_of_ble_eq_true rfl, Nat.le_of_ble_eq_true rfl, Nat.le_of_ble_eq_true rfl, Nat.le_of_ble_eq_true rfl⟩ (by decide) zx_E0 rfl rfl hl.1 rfl (Nat.le_of_ble_eq_true rfl) dL_law_549 (fun H locs hW hS => ?_)
  refine lv_aload_n hx hb dL_law_552 rfl (lv_at hl 2 rfl) ?_
  refine lv_aload_n hx hb dL_law_553 rfl (lv_at hl 0 rfl) ?_
  refine lv_iload_n hx hb dL_law_554 rfl (lv_at hl 3 rfl) ?_
  refine lv_iconst (v := 1) hx hb dL_law_555 (by decide) ?_
  refine lv_iadd hx hb dL_law_556 ?_
  refine va_sld hx hb hX hbl hbA hS hin1 dL_law_557 ?_
  refine lx_V (q := (RX9, TX9, 35)) (As := [.int (xs (x3 + 1).toNatClampNeg)]) (rest := [.int r]) F hA hW hS (c_X9_ideal l D a cs fu (xs (x3 + 1).toNatClampNeg) S1 r S2 h2) Y_X9_ideal wi_X9_ideal ws_X9_ideal wm_L_73 ⟨rfl, rfl, Nat.le_of_ble_eq_true rfl, Nat.le_of_ble_eq_true rfl, Nat.le_of_ble_eq_true rfl, Nat.le_of_ble_eq_true rfl⟩ (by decide) zx_E43 rfl rfl hl.1 rfl (Nat.le_of_ble_eq_true rfl) dL_law_558 (fun H locs hW hS => ?_)
  refine lv_icmp_eq (tgt := 781) hx hb dL_law_561 (by decide) (fun _ => ?_) (fun q => absurd rfl q)
  exact hnext S2 _ _ _ h3 hW hS hl
set_option maxHeartbeats 4000000 in
set_option maxRecDepth 100000 in
theorem lx_c14 {p : Program} {l : Launch} {e : Env} {s : State} {m : MethodId} {below : List Frame} {meth : Method} {c : Code} {D : va_G} {a : Nat → Nat} {cs : zx_C} {b L : Nat} {xs : Nat → Int32} (F : zx_F D a cs p m c cL_law 4 s #[Value.ref b] RL meth) (hX : va_X b L xs s s.heap) (hbl : b < s.heap.size) (hA : ∀ k, k < 62 → s.heap.size ≤ a k) (hL : L ≤ 3072) {fu : Nat} {I : St → Prop} (hI : lx_h14 fu I) {x3 : Int32} {i : Nat} (e3 : x3 = nI i) (hi : i + 5 < L) (hnext : ∀ (S : St) (H : Heap) (locs : List Loc) (ls : Array Slot), I S → zx_W D a cs S H → va_S (fun q : Nat => s.heap.size ≤ q) s.heap H locs → lv_has ls 4 [(0, .ref b), (1, .ref (a 0)), (2, .ref (a 43)), (3, .int x3)] → W p l e room_1 s m #[Value.ref b] below meth c H locs 600000 7302250 (lw_Z below #[Value.ref b] s) (F0 m 781 ls [])) (S : St) (H : Heap) (locs : List Loc) (ls : Array Slot) (hi0 : I S) (hW : zx_W D a cs S H) (hS : va_S (fun q : Nat => s.heap.size ≤ q) s.heap H locs) (hl : lv_has ls 4 [(0, .ref b), (1, .ref (a 0)), (2, .ref (a 43)), (3, .int x3)]) : W p l e room_1 s m #[Value.ref b] below meth c H locs 600000 7302250 (lw_Z below #[Value.ref b] s) (F0 m 566 ls []) := by
  obtain ⟨⟨hx, hb, hml, hown, hts⟩, hlk, hK, hJ, hN⟩ := id F
  have hbA : ¬ (fun q : Nat => s.heap.size ≤ q) b := Nat.not_le.mpr hbl
  obtain ⟨r, S1, S2, h1, h2, h3⟩ := hI (xs (x3 + 1).toNatClampNeg) (xs (x3 + 2).toNatClampNeg) (xs (x3 + 3).toNatClampNeg) (xs (x3 + 4).toNatClampNeg) (xs (x3 + 5).toNatClampNeg) S hi0
  have hin1 : vp_in (x3 + 1) L := lx_in (j := 1) e3 (by omega) hL
  have hin2 : vp_in (x3 + 2) L := lx_in (j := 2) e3 (by omega) hL
  have hin3 : vp_in (x3 + 3) L := lx_in (j := 3) e3 (by omega) hL
  have hin4 : vp_in (x3 + 4) L := lx_in (j := 4) e3 (by omega) hL
  have hin5 : vp_in (x3 + 5) L := lx_in (j := 5) e3 (by omega) hL
  refine lv_aload_n hx hb dL_law_566 rfl (lv_at hl 1 rfl) ?_
  refine lv_aload_n hx hb dL_law_567 rfl (lv_at hl 0 rfl) ?_
  refine lv_iload_n hx hb dL_law_568 rfl (lv_at hl 3 rfl) ?_
  refine lv_iconst (v := 1) hx hb dL_law_569 (by decide) ?_
  refine lv_iadd hx hb dL_law_570 ?_
  refine va_sld hx hb hX hbl hbA hS hin1 dL_law_571 ?_
  refine lv_aload_n hx hb dL_law_572 rfl (lv_at hl 0 rfl) ?_
  refine lv_iload_n hx hb dL_law_573 rfl (lv_at hl 3 rfl) ?_
  refine lv_iconst (v := 2) hx hb dL_law_574 (by decide) ?_
  refine lv_iadd hx hb dL_law_575 ?_
  refine va_sld hx hb hX hbl hbA hS hin2 dL_law_576 ?_
  refine lv_aload_n hx hb dL_law_577 rfl (lv_at hl 0 rfl) ?_
  refine lv_iload_n hx hb dL_law_578 rfl (lv_at hl 3 rfl) ?_
  refine lv_iconst (v := 3) hx hb dL_law_579 (by decide) ?_
  refine lv_iadd hx hb dL_law_580 ?_
  refine va_sld hx hb hX hbl hbA hS hin3 dL_law_581 ?_
  refine lv_aload_n hx hb dL_law_582 rfl (lv_at hl 0 rfl) ?_
  refine lv_iload_n hx hb dL_law_583 rfl (lv_at hl 3 rfl) ?_
  refine lv_iconst (v := 4) hx hb dL_law_584 (by decide) ?_
  refine lv_iadd hx hb dL_law_585 ?_
  refine va_sld hx hb hX hbl hbA hS hin4 dL_law_586 ?_
  refine lv_aload_n hx hb dL_law_587 rfl (lv_at hl 0 rfl) ?_
  refine lv_iload_n hx hb dL_law_588 rfl (lv_at hl 3 rfl) ?_
  refine lv_iconst (v := 5) hx hb dL_law_589 (by decide) ?_
  refine lv_iadd hx hb dL_law_590 ?_
  refine va_sld hx hb hX hbl hbA hS hin5 dL_law_591 ?_
  refine lx_V (q := (RX8, TX8, 11)) (As := [.int (xs (x3 + 1).toNatClampNeg), .int (xs (x3 + 2).toNatClampNeg), .int (xs (x3 + 3).toNatClampNeg), .int (xs (x3 + 4).toNatClampNeg), .int (xs (x3 + 5).toNatClampNeg)]) (rest := []) F hA hW hS (c_X8_code l D a cs fu (xs (x3 + 1).toNatClampNeg) (xs (x3 + 2).toNatClampNeg) (xs (x3 + 3).toNatClampNeg) (xs (x3 + 4).toNatClampNeg) (xs (x3 + 5).toNatClampNeg) S r S1 h1) Y_X8_code wi_X8_code ws_X8_code wm_L_74 ⟨rfl, rfl, Nat.le_of_ble_eq_true rfl, Nat.le_of_ble_eq_true rfl, Nat.le_of_ble_eq_true rfl, Nat.le_of_ble_eq_true rfl⟩ (by decide) zx_E0 rfl rfl hl.1 rfl (Nat.le_of_ble_eq_true rfl) dL_law_592 (fun H locs hW hS => ?_)
  refine lv_aload_n hx hb dL_law_595 rfl (lv_at hl 2 rfl) ?_
  refine lv_aload_n hx hb dL_law_596 rfl (lv_at hl 0 rfl) ?_
  refine lv_iload_n hx hb dL_law_597 rfl (lv_at hl 3 rfl) ?_
  refine lv_iconst (v := 1) hx hb dL_law_598 (by decide) ?_
  refine lv_iadd hx hb dL_law_599 ?_
  refine va_sld hx hb hX hbl hbA hS hin1 dL_law_600 ?_
  refine lv_aload_n hx hb dL_law_601 rfl (lv_at hl 0 rfl) ?_
  refine lv_iload_n hx hb dL_law_602 rfl (lv_at hl 3 rfl) ?_
  refine lv_iconst (v := 2) hx hb dL_law_603 (by decide) ?_
  refine lv_iadd hx hb dL_law_604 ?_
  refine va_sld hx hb hX hbl hbA hS hin2 dL_law_605 ?_
  refine lv_aload_n hx hb dL_law_606 rfl (lv_at hl 0 rfl) ?_
  refine lv_iload_n hx hb dL_law_607 rfl (lv_at hl 3 rfl) ?_
  refine lv_iconst (v := 3) hx hb dL_law_608 (by decide) ?_
  refine lv_iadd hx hb dL_law_609 ?_
  refine va_sld hx hb hX hbl hbA hS hin3 dL_law_610 ?_
  refine lv_aload_n hx hb dL_law_611 rfl (lv_at hl 0 rfl) ?_
  refine lv_iload_n hx hb dL_law_612 rfl (lv_at hl 3 rfl) ?_
  refine lv_iconst (v := 4) hx hb dL_law_613 (by decide) ?_
  refine lv_iadd hx hb dL_law_614 ?_
  refine va_sld hx hb hX hbl hbA hS hin4 dL_law_615 ?_
  refine lv_aload_n hx hb dL_law_616 rfl (lv_at hl 0 rfl) ?_
  refine lv_iload_n hx hb dL_law_617 rfl (lv_at hl 3 rfl) ?_
  refine lv_iconst (v := 5) hx hb dL_law_618 (by decide) ?_
  refine lv_iadd hx hb dL_law_619 ?_
  refine va_sld hx hb hX hbl hbA hS hin5 dL_law_620 ?_
  refine lx_V (q := (RX9, TX9, 35)) (As := [.int (xs (x3 + 1).toNatClampNeg), .int (xs (x3 + 2).toNatClampNeg), .int (xs (x3 + 3).toNatClampNeg), .int (xs (x3 + 4).toNatClampNeg), .int (xs (x3 + 5).toNatClampNeg)]) (rest := [.int r]) F hA hW hS (c_X9_code l D a cs fu (xs (x3 + 1).toNatClampNeg) (xs (x3 + 2).toNatClampNeg) (xs (x3 + 3).toNatClampNeg) (xs (x3 + 4).toNatClampNeg) (xs (x3 + 5).toNatClampNeg) S1 r S2 h2) Y_X9_code wi_X9_code ws_X9_code wm_L_77 ⟨rfl, rfl, Nat.le_of_ble_eq_true rfl, Nat.le_of_ble_eq_true rfl, Nat.le_of_ble_eq_true rfl, Nat.le_of_ble_eq_true rfl⟩ (by decide) zx_E43 rfl rfl hl.1 rfl (Nat.le_of_ble_eq_true rfl) dL_law_621 (fun H locs hW hS => ?_)
  refine lv_icmp_eq (tgt := 781) hx hb dL_law_624 (by decide) (fun _ => ?_) (fun q => absurd rfl q)
  exact hnext S2 _ _ _ h3 hW hS hl
set_option maxHeartbeats 4000000 in
set_option maxRecDepth 100000 in
theorem lx_c15 {p : Program} {l : Launch} {e : Env} {s : State} {m : MethodId} {below : List Frame} {meth : Method} {c : Code} {D : va_G} {a : Nat → Nat} {cs : zx_C} {b L : Nat} {xs : Nat → Int32} (F : zx_F D a cs p m c cL_law 4 s #[Value.ref b] RL meth) (hX : va_X b L xs s s.heap) (hbl : b < s.heap.size) (hA : ∀ k, k < 62 → s.heap.size ≤ a k) (hL : L ≤ 3072) {fu : Nat} {I : St → Prop} (hI : lx_h15 fu I) {x3 : Int32} {i : Nat} (e3 : x3 = nI i) (hi : i + 5 < L) (hnext : ∀ (S : St) (H : Heap) (locs : List Loc) (ls : Array Slot), I S → zx_W D a cs S H → va_S (fun q : Nat => s.heap.size ≤ q) s.heap H locs → lv_has ls 4 [(0, .ref b), (1, .ref (a 0)), (2, .ref (a 43)), (3, .int x3)] → W p l e room_1 s m #[Value.ref b] below meth c H locs 600000 7302250 (lw_Z below #[Value.ref b] s) (F0 m 781 ls [])) (S : St) (H : Heap) (locs : List Loc) (ls : Array Slot) (hi0 : I S) (hW : zx_W D a cs S H) (hS : va_S (fun q : Nat => s.heap.size ≤ q) s.heap H locs) (hl : lv_has ls 4 [(0, .ref b), (1, .ref (a 0)), (2, .ref (a 43)), (3, .int x3)]) : W p l e room_1 s m #[Value.ref b] below meth c H locs 600000 7302250 (lw_Z below #[Value.ref b] s) (F0 m 629 ls []) := by
  obtain ⟨⟨hx, hb, hml, hown, hts⟩, hlk, hK, hJ, hN⟩ := id F
  have hbA : ¬ (fun q : Nat => s.heap.size ≤ q) b := Nat.not_le.mpr hbl
  obtain ⟨r, S1, S2, h1, h2, h3⟩ := hI (xs (x3 + 1).toNatClampNeg) S hi0
  have hin1 : vp_in (x3 + 1) L := lx_in (j := 1) e3 (by omega) hL
  refine lv_aload_n hx hb dL_law_629 rfl (lv_at hl 1 rfl) ?_
  refine lv_aload_n hx hb dL_law_630 rfl (lv_at hl 0 rfl) ?_
  refine lv_iload_n hx hb dL_law_631 rfl (lv_at hl 3 rfl) ?_
  refine lv_iconst (v := 1) hx hb dL_law_632 (by decide) ?_
  refine lv_iadd hx hb dL_law_633 ?_
  refine va_sld hx hb hX hbl hbA hS hin1 dL_law_634 ?_
  refine lx_V (q := (RX8, TX8, 11)) (As := [.int (xs (x3 + 1).toNatClampNeg)]) (rest := []) F hA hW hS (c_X8_gone l D a cs (xs (x3 + 1).toNatClampNeg) S r S1 h1) Y_X8_gone wi_X8_gone ws_X8_gone wm_L_78 ⟨rfl, rfl, Nat.le_of_ble_eq_true rfl, Nat.le_of_ble_eq_true rfl, Nat.le_of_ble_eq_true rfl, Nat.le_of_ble_eq_true rfl⟩ (by decide) zx_E0 rfl rfl hl.1 rfl (Nat.le_of_ble_eq_true rfl) dL_law_635 (fun H locs hW hS => ?_)
  refine lv_aload_n hx hb dL_law_638 rfl (lv_at hl 2 rfl) ?_
  refine lv_aload_n hx hb dL_law_639 rfl (lv_at hl 0 rfl) ?_
  refine lv_iload_n hx hb dL_law_640 rfl (lv_at hl 3 rfl) ?_
  refine lv_iconst (v := 1) hx hb dL_law_641 (by decide) ?_
  refine lv_iadd hx hb dL_law_642 ?_
  refine va_sld hx hb hX hbl hbA hS hin1 dL_law_643 ?_
  refine lx_V (q := (RX9, TX9, 35)) (As := [.int (xs (x3 + 1).toNatClampNeg)]) (rest := [.int r]) F hA hW hS (c_X9_gone l D a cs (xs (x3 + 1).toNatClampNeg) S1 r S2 h2) Y_X9_gone wi_X9_gone ws_X9_gone wm_L_81 ⟨rfl, rfl, Nat.le_of_ble_eq_true rfl, Nat.le_of_ble_eq_true rfl, Nat.le_of_ble_eq_true rfl, Nat.le_of_ble_eq_true rfl⟩ (by decide) zx_E43 rfl rfl hl.1 rfl (Nat.le_of_ble_eq_true rfl) dL_law_644 (fun H locs hW hS => ?_)
  refine lv_icmp_eq (tgt := 781) hx hb dL_law_647 (by decide) (fun _ => ?_) (fun q => absurd rfl q)
  exact hnext S2 _ _ _ h3 hW hS hl
set_option maxHeartbeats 4000000 in
set_option maxRecDepth 100000 in
theorem lx_c16 {p : Program} {l : Launch} {e : Env} {s : State} {m : MethodId} {below : List Frame} {meth : Method} {c : Code} {D : va_G} {a : Nat → Nat} {cs : zx_C} {b L : Nat} {xs : Nat → Int32} (F : zx_F D a cs p m c cL_law 4 s #[Value.ref b] RL meth) (hX : va_X b L xs s s.heap) (hbl : b < s.heap.size) (hA : ∀ k, k < 62 → s.heap.size ≤ a k) (hL : L ≤ 3072) {fu : Nat} {I : St → Prop} (hI : lx_h16 fu I) {x3 : Int32} {i : Nat} (e3 : x3 = nI i) (hi : i + 5 < L) (hnext : ∀ (S : St) (H : Heap) (locs : List Loc) (ls : Array Slot), I S → zx_W D a cs S H → va_S (fun q : Nat => s.heap.size ≤ q) s.heap H locs → lv_has ls 4 [(0, .ref b), (1, .ref (a 0)), (2, .ref (a 43)), (3, .int x3)] → W p l e room_1 s m #[Value.ref b] below meth c H locs 600000 7302250 (lw_Z below #[Value.ref b] s) (F0 m 781 ls [])) (S : St) (H : Heap) (locs : List Loc) (ls : Array Slot) (hi0 : I S) (hW : zx_W D a cs S H) (hS : va_S (fun q : Nat => s.heap.size ≤ q) s.heap H locs) (hl : lv_has ls 4 [(0, .ref b), (1, .ref (a 0)), (2, .ref (a 43)), (3, .int x3)]) : W p l e room_1 s m #[Value.ref b] below meth c H locs 600000 7302250 (lw_Z below #[Value.ref b] s) (F0 m 652 ls []) := by
  obtain ⟨⟨hx, hb, hml, hown, hts⟩, hlk, hK, hJ, hN⟩ := id F
  have hbA : ¬ (fun q : Nat => s.heap.size ≤ q) b := Nat.not_le.mpr hbl
  obtain ⟨r, S1, S2, h1, h2, h3⟩ := hI (xs (x3 + 1).toNatClampNeg) (xs (x3 + 2).toNatClampNeg) (xs (x3 + 3).toNatClampNeg) (xs (x3 + 4).toNatClampNeg) S hi0
  have hin1 : vp_in (x3 + 1) L := lx_in (j := 1) e3 (by omega) hL
  have hin2 : vp_in (x3 + 2) L := lx_in (j := 2) e3 (by omega) hL
  have hin3 : vp_in (x3 + 3) L := lx_in (j := 3) e3 (by omega) hL
  have hin4 : vp_in (x3 + 4) L := lx_in (j := 4) e3 (by omega) hL
  refine lv_aload_n hx hb dL_law_652 rfl (lv_at hl 1 rfl) ?_
  refine lv_aload_n hx hb dL_law_653 rfl (lv_at hl 0 rfl) ?_
  refine lv_iload_n hx hb dL_law_654 rfl (lv_at hl 3 rfl) ?_
  refine lv_iconst (v := 1) hx hb dL_law_655 (by decide) ?_
  refine lv_iadd hx hb dL_law_656 ?_
  refine va_sld hx hb hX hbl hbA hS hin1 dL_law_657 ?_
  refine lv_aload_n hx hb dL_law_658 rfl (lv_at hl 0 rfl) ?_
  refine lv_iload_n hx hb dL_law_659 rfl (lv_at hl 3 rfl) ?_
  refine lv_iconst (v := 2) hx hb dL_law_660 (by decide) ?_
  refine lv_iadd hx hb dL_law_661 ?_
  refine va_sld hx hb hX hbl hbA hS hin2 dL_law_662 ?_
  refine lv_aload_n hx hb dL_law_663 rfl (lv_at hl 0 rfl) ?_
  refine lv_iload_n hx hb dL_law_664 rfl (lv_at hl 3 rfl) ?_
  refine lv_iconst (v := 3) hx hb dL_law_665 (by decide) ?_
  refine lv_iadd hx hb dL_law_666 ?_
  refine va_sld hx hb hX hbl hbA hS hin3 dL_law_667 ?_
  refine lv_aload_n hx hb dL_law_668 rfl (lv_at hl 0 rfl) ?_
  refine lv_iload_n hx hb dL_law_669 rfl (lv_at hl 3 rfl) ?_
  refine lv_iconst (v := 4) hx hb dL_law_670 (by decide) ?_
  refine lv_iadd hx hb dL_law_671 ?_
  refine va_sld hx hb hX hbl hbA hS hin4 dL_law_672 ?_
  refine lx_V (q := (RX8, TX8, 11)) (As := [.int (xs (x3 + 1).toNatClampNeg), .int (xs (x3 + 2).toNatClampNeg), .int (xs (x3 + 3).toNatClampNeg), .int (xs (x3 + 4).toNatClampNeg)]) (rest := []) F hA hW hS (c_X8_symbol l D a cs fu (xs (x3 + 1).toNatClampNeg) (xs (x3 + 2).toNatClampNeg) (xs (x3 + 3).toNatClampNeg) (xs (x3 + 4).toNatClampNeg) S r S1 h1) Y_X8_symbol wi_X8_symbol ws_X8_symbol wm_L_82 ⟨rfl, rfl, Nat.le_of_ble_eq_true rfl, Nat.le_of_ble_eq_true rfl, Nat.le_of_ble_eq_true rfl, Nat.le_of_ble_eq_true rfl⟩ (by decide) zx_E0 rfl rfl hl.1 rfl (Nat.le_of_ble_eq_true rfl) dL_law_673 (fun H locs hW hS => ?_)
  refine lv_aload_n hx hb dL_law_676 rfl (lv_at hl 2 rfl) ?_
  refine lv_aload_n hx hb dL_law_677 rfl (lv_at hl 0 rfl) ?_
  refine lv_iload_n hx hb dL_law_678 rfl (lv_at hl 3 rfl) ?_
  refine lv_iconst (v := 1) hx hb dL_law_679 (by decide) ?_
  refine lv_iadd hx hb dL_law_680 ?_
  refine va_sld hx hb hX hbl hbA hS hin1 dL_law_681 ?_
  refine lv_aload_n hx hb dL_law_682 rfl (lv_at hl 0 rfl) ?_
  refine lv_iload_n hx hb dL_law_683 rfl (lv_at hl 3 rfl) ?_
  refine lv_iconst (v := 2) hx hb dL_law_684 (by decide) ?_
  refine lv_iadd hx hb dL_law_685 ?_
  refine va_sld hx hb hX hbl hbA hS hin2 dL_law_686 ?_
  refine lv_aload_n hx hb dL_law_687 rfl (lv_at hl 0 rfl) ?_
  refine lv_iload_n hx hb dL_law_688 rfl (lv_at hl 3 rfl) ?_
  refine lv_iconst (v := 3) hx hb dL_law_689 (by decide) ?_
  refine lv_iadd hx hb dL_law_690 ?_
  refine va_sld hx hb hX hbl hbA hS hin3 dL_law_691 ?_
  refine lv_aload_n hx hb dL_law_692 rfl (lv_at hl 0 rfl) ?_
  refine lv_iload_n hx hb dL_law_693 rfl (lv_at hl 3 rfl) ?_
  refine lv_iconst (v := 4) hx hb dL_law_694 (by decide) ?_
  refine lv_iadd hx hb dL_law_695 ?_
  refine va_sld hx hb hX hbl hbA hS hin4 dL_law_696 ?_
  refine lx_V (q := (RX9, TX9, 35)) (As := [.int (xs (x3 + 1).toNatClampNeg), .int (xs (x3 + 2).toNatClampNeg), .int (xs (x3 + 3).toNatClampNeg), .int (xs (x3 + 4).toNatClampNeg)]) (rest := [.int r]) F hA hW hS (c_X9_symbol l D a cs fu (xs (x3 + 1).toNatClampNeg) (xs (x3 + 2).toNatClampNeg) (xs (x3 + 3).toNatClampNeg) (xs (x3 + 4).toNatClampNeg) S1 r S2 h2) Y_X9_symbol wi_X9_symbol ws_X9_symbol wm_L_86 ⟨rfl, rfl, Nat.le_of_ble_eq_true rfl, Nat.le_of_ble_eq_true rfl, Nat.le_of_ble_eq_true rfl, Nat.le_of_ble_eq_true rfl⟩ (by decide) zx_E43 rfl rfl hl.1 rfl (Nat.le_of_ble_eq_true rfl) dL_law_697 (fun H locs hW hS => ?_)
  refine lv_icmp_eq (tgt := 781) hx hb dL_law_700 (by decide) (fun _ => ?_) (fun q => absurd rfl q)
  exact hnext S2 _ _ _ h3 hW hS hl
set_option maxHeartbeats 4000000 in
set_option maxRecDepth 100000 in
theorem lx_c17 {p : Program} {l : Launch} {e : Env} {s : State} {m : MethodId} {below : List Frame} {meth : Method} {c : Code} {D : va_G} {a : Nat → Nat} {cs : zx_C} {b L : Nat} {xs : Nat → Int32} (F : zx_F D a cs p m c cL_law 4 s #[Value.ref b] RL meth) (hX : va_X b L xs s s.heap) (hbl : b < s.heap.size) (hA : ∀ k, k < 62 → s.heap.size ≤ a k) (hL : L ≤ 3072) {fu : Nat} {I : St → Prop} (hI : lx_h17 fu I) {x3 : Int32} {i : Nat} (e3 : x3 = nI i) (hi : i + 5 < L) (hnext : ∀ (S : St) (H : Heap) (locs : List Loc) (ls : Array Slot), I S → zx_W D a cs S H → va_S (fun q : Nat => s.heap.size ≤ q) s.heap H locs → lv_has ls 4 [(0, .ref b), (1, .ref (a 0)), (2, .ref (a 43)), (3, .int x3)] → W p l e room_1 s m #[Value.ref b] below meth c H locs 600000 7302250 (lw_Z below #[Value.ref b] s) (F0 m 781 ls [])) (S : St) (H : Heap) (locs : List Loc) (ls : Array Slot) (hi0 : I S) (hW : zx_W D a cs S H) (hS : va_S (fun q : Nat => s.heap.size ≤ q) s.heap H locs) (hl : lv_has ls 4 [(0, .ref b), (1, .ref (a 0)), (2, .ref (a 43)), (3, .int x3)]) : W p l e room_1 s m #[Value.ref b] below meth c H locs 600000 7302250 (lw_Z below #[Value.ref b] s) (F0 m 705 ls []) := by
  obtain ⟨⟨hx, hb, hml, hown, hts⟩, hlk, hK, hJ, hN⟩ := id F
  have hbA : ¬ (fun q : Nat => s.heap.size ≤ q) b := Nat.not_le.mpr hbl
  obtain ⟨r, S1, S2, h1, h2, h3⟩ := hI (xs (x3 + 1).toNatClampNeg) (xs (x3 + 2).toNatClampNeg) (xs (x3 + 3).toNatClampNeg) (xs (x3 + 4).toNatClampNeg) S hi0
  have hin1 : vp_in (x3 + 1) L := lx_in (j := 1) e3 (by omega) hL
  have hin2 : vp_in (x3 + 2) L := lx_in (j := 2) e3 (by omega) hL
  have hin3 : vp_in (x3 + 3) L := lx_in (j := 3) e3 (by omega) hL
  have hin4 : vp_in (x3 + 4) L := lx_in (j := 4) e3 (by omega) hL
  refine lv_aload_n hx hb dL_law_705 rfl (lv_at hl 1 rfl) ?_
  refine lv_aload_n hx hb dL_law_706 rfl (lv_at hl 0 rfl) ?_
  refine lv_iload_n hx hb dL_law_707 rfl (lv_at hl 3 rfl) ?_
  refine lv_iconst (v := 1) hx hb dL_law_708 (by decide) ?_
  refine lv_iadd hx hb dL_law_709 ?_
  refine va_sld hx hb hX hbl hbA hS hin1 dL_law_710 ?_
  refine lv_aload_n hx hb dL_law_711 rfl (lv_at hl 0 rfl) ?_
  refine lv_iload_n hx hb dL_law_712 rfl (lv_at hl 3 rfl) ?_
  refine lv_iconst (v := 2) hx hb dL_law_713 (by decide) ?_
  refine lv_iadd hx hb dL_law_714 ?_
  refine va_sld hx hb hX hbl hbA hS hin2 dL_law_715 ?_
  refine lv_aload_n hx hb dL_law_716 rfl (lv_at hl 0 rfl) ?_
  refine lv_iload_n hx hb dL_law_717 rfl (lv_at hl 3 rfl) ?_
  refine lv_iconst (v := 3) hx hb dL_law_718 (by decide) ?_
  refine lv_iadd hx hb dL_law_719 ?_
  refine va_sld hx hb hX hbl hbA hS hin3 dL_law_720 ?_
  refine lv_aload_n hx hb dL_law_721 rfl (lv_at hl 0 rfl) ?_
  refine lv_iload_n hx hb dL_law_722 rfl (lv_at hl 3 rfl) ?_
  refine lv_iconst (v := 4) hx hb dL_law_723 (by decide) ?_
  refine lv_iadd hx hb dL_law_724 ?_
  refine va_sld hx hb hX hbl hbA hS hin4 dL_law_725 ?_
  refine lx_V (q := (RX8, TX8, 11)) (As := [.int (xs (x3 + 1).toNatClampNeg), .int (xs (x3 + 2).toNatClampNeg), .int (xs (x3 + 3).toNatClampNeg), .int (xs (x3 + 4).toNatClampNeg)]) (rest := []) F hA hW hS (c_X8_left l D a cs fu (xs (x3 + 1).toNatClampNeg) (xs (x3 + 2).toNatClampNeg) (xs (x3 + 3).toNatClampNeg) (xs (x3 + 4).toNatClampNeg) S r S1 h1) Y_X8_left wi_X8_left ws_X8_left wm_L_87 ⟨rfl, rfl, Nat.le_of_ble_eq_true rfl, Nat.le_of_ble_eq_true rfl, Nat.le_of_ble_eq_true rfl, Nat.le_of_ble_eq_true rfl⟩ (by decide) zx_E0 rfl rfl hl.1 rfl (Nat.le_of_ble_eq_true rfl) dL_law_726 (fun H locs hW hS => ?_)
  refine lv_aload_n hx hb dL_law_729 rfl (lv_at hl 2 rfl) ?_
  refine lv_aload_n hx hb dL_law_730 rfl (lv_at hl 0 rfl) ?_
  refine lv_iload_n hx hb dL_law_731 rfl (lv_at hl 3 rfl) ?_
  refine lv_iconst (v := 1) hx hb dL_law_732 (by decide) ?_
  refine lv_iadd hx hb dL_law_733 ?_
  refine va_sld hx hb hX hbl hbA hS hin1 dL_law_734 ?_
  refine lv_aload_n hx hb dL_law_735 rfl (lv_at hl 0 rfl) ?_
  refine lv_iload_n hx hb dL_law_736 rfl (lv_at hl 3 rfl) ?_
  refine lv_iconst (v := 2) hx hb dL_law_737 (by decide) ?_
  refine lv_iadd hx hb dL_law_738 ?_
  refine va_sld hx hb hX hbl hbA hS hin2 dL_law_739 ?_
  refine lv_aload_n hx hb dL_law_740 rfl (lv_at hl 0 rfl) ?_
  refine lv_iload_n hx hb dL_law_741 rfl (lv_at hl 3 rfl) ?_
  refine lv_iconst (v := 3) hx hb dL_law_742 (by decide) ?_
  refine lv_iadd hx hb dL_law_743 ?_
  refine va_sld hx hb hX hbl hbA hS hin3 dL_law_744 ?_
  refine lv_aload_n hx hb dL_law_745 rfl (lv_at hl 0 rfl) ?_
  refine lv_iload_n hx hb dL_law_746 rfl (lv_at hl 3 rfl) ?_
  refine lv_iconst (v := 4) hx hb dL_law_747 (by decide) ?_
  refine lv_iadd hx hb dL_law_748 ?_
  refine va_sld hx hb hX hbl hbA hS hin4 dL_law_749 ?_
  refine lx_V (q := (RX9, TX9, 35)) (As := [.int (xs (x3 + 1).toNatClampNeg), .int (xs (x3 + 2).toNatClampNeg), .int (xs (x3 + 3).toNatClampNeg), .int (xs (x3 + 4).toNatClampNeg)]) (rest := [.int r]) F hA hW hS (c_X9_left l D a cs fu (xs (x3 + 1).toNatClampNeg) (xs (x3 + 2).toNatClampNeg) (xs (x3 + 3).toNatClampNeg) (xs (x3 + 4).toNatClampNeg) S1 r S2 h2) Y_X9_left wi_X9_left ws_X9_left wm_L_90 ⟨rfl, rfl, Nat.le_of_ble_eq_true rfl, Nat.le_of_ble_eq_true rfl, Nat.le_of_ble_eq_true rfl, Nat.le_of_ble_eq_true rfl⟩ (by decide) zx_E43 rfl rfl hl.1 rfl (Nat.le_of_ble_eq_true rfl) dL_law_750 (fun H locs hW hS => ?_)
  refine lv_icmp_eq (tgt := 781) hx hb dL_law_753 (by decide) (fun _ => ?_) (fun q => absurd rfl q)
  exact hnext S2 _ _ _ h3 hW hS hl
set_option maxHeartbeats 4000000 in
set_option maxRecDepth 100000 in
theorem lx_c18 {p : Program} {l : Launch} {e : Env} {s : State} {m : MethodId} {below : List Frame} {meth : Method} {c : Code} {D : va_G} {a : Nat → Nat} {cs : zx_C} {b L : Nat} {xs : Nat → Int32} (F : zx_F D a cs p m c cL_law 4 s #[Value.ref b] RL meth) (hX : va_X b L xs s s.heap) (hbl : b < s.heap.size) (hA : ∀ k, k < 62 → s.heap.size ≤ a k) (hL : L ≤ 3072) {fu : Nat} {I : St → Prop} (hI : lx_h18 fu I) {x3 : Int32} {i : Nat} (e3 : x3 = nI i) (hi : i + 5 < L) (hnext : ∀ (S : St) (H : Heap) (locs : List Loc) (ls : Array Slot), I S → zx_W D a cs S H → va_S (fun q : Nat => s.heap.size ≤ q) s.heap H locs → lv_has ls 4 [(0, .ref b), (1, .ref (a 0)), (2, .ref (a 43)), (3, .int x3)] → W p l e room_1 s m #[Value.ref b] below meth c H locs 600000 7302250 (lw_Z below #[Value.ref b] s) (F0 m 781 ls [])) (S : St) (H : Heap) (locs : List Loc) (ls : Array Slot) (hi0 : I S) (hW : zx_W D a cs S H) (hS : va_S (fun q : Nat => s.heap.size ≤ q) s.heap H locs) (hl : lv_has ls 4 [(0, .ref b), (1, .ref (a 0)), (2, .ref (a 43)), (3, .int x3)]) : W p l e room_1 s m #[Value.ref b] below meth c H locs 600000 7302250 (lw_Z below #[Value.ref b] s) (F0 m 758 ls []) := by
  obtain ⟨⟨hx, hb, hml, hown, hts⟩, hlk, hK, hJ, hN⟩ := id F
  have hbA : ¬ (fun q : Nat => s.heap.size ≤ q) b := Nat.not_le.mpr hbl
  obtain ⟨r, S1, S2, h1, h2, h3⟩ := hI (xs (x3 + 1).toNatClampNeg) S hi0
  have hin1 : vp_in (x3 + 1) L := lx_in (j := 1) e3 (by omega) hL
  refine lv_aload_n hx hb dL_law_758 rfl (lv_at hl 1 rfl) ?_
  refine lv_aload_n hx hb dL_law_759 rfl (lv_at hl 0 rfl) ?_
  refine lv_iload_n hx hb dL_law_760 rfl (lv_at hl 3 rfl) ?_
  refine lv_iconst (v := 1) hx hb dL_law_761 (by decide) ?_
  refine lv_iadd hx hb dL_law_762 ?_
  refine va_sld hx hb hX hbl hbA hS hin1 dL_law_763 ?_
  refine lx_V (q := (RX8, TX8, 11)) (As := [.int (xs (x3 + 1).toNatClampNeg)]) (rest := []) F hA hW hS (c_X8_look l D a cs (xs (x3 + 1).toNatClampNeg) S r S1 h1) Y_X8_look wi_X8_look ws_X8_look wm_L_91 ⟨rfl, rfl, Nat.le_of_ble_eq_true rfl, Nat.le_of_ble_eq_true rfl, Nat.le_of_ble_eq_true rfl, Nat.le_of_ble_eq_true rfl⟩ (by decide) zx_E0 rfl rfl hl.1 rfl (Nat.le_of_ble_eq_true rfl) dL_law_764 (fun H locs hW hS => ?_)
  refine lv_aload_n hx hb dL_law_767 rfl (lv_at hl 2 rfl) ?_
  refine lv_aload_n hx hb dL_law_768 rfl (lv_at hl 0 rfl) ?_
  refine lv_iload_n hx hb dL_law_769 rfl (lv_at hl 3 rfl) ?_
  refine lv_iconst (v := 1) hx hb dL_law_770 (by decide) ?_
  refine lv_iadd hx hb dL_law_771 ?_
  refine va_sld hx hb hX hbl hbA hS hin1 dL_law_772 ?_
  refine lx_V (q := (RX9, TX9, 35)) (As := [.int (xs (x3 + 1).toNatClampNeg)]) (rest := [.int r]) F hA hW hS (c_X9_look l D a cs (xs (x3 + 1).toNatClampNeg) S1 r S2 h2) Y_X9_look wi_X9_look ws_X9_look wm_L_94 ⟨rfl, rfl, Nat.le_of_ble_eq_true rfl, Nat.le_of_ble_eq_true rfl, Nat.le_of_ble_eq_true rfl, Nat.le_of_ble_eq_true rfl⟩ (by decide) zx_E43 rfl rfl hl.1 rfl (Nat.le_of_ble_eq_true rfl) dL_law_773 (fun H locs hW hS => ?_)
  refine lv_icmp_eq (tgt := 781) hx hb dL_law_776 (by decide) (fun _ => ?_) (fun q => absurd rfl q)
  exact hnext S2 _ _ _ h3 hW hS hl
set_option maxHeartbeats 4000000 in
set_option maxRecDepth 100000 in
theorem lx_loop {p : Program} {l : Launch} {e : Env} {s : State} {m : MethodId} {below : List Frame} {meth : Method} {c : Code} {D : va_G} {a : Nat → Nat} {cs : zx_C} {b L : Nat} {xs : Nat → Int32} (F : zx_F D a cs p m c cL_law 4 s #[Value.ref b] RL meth) (hX : va_X b L xs s s.heap) (hbl : b < s.heap.size) (hA : ∀ k, k < 62 → s.heap.size ≤ a k) (hL : L ≤ 3072) (hlocks : meth.locks = false) (hr : meth.sig.returnType = ret) {fu : Nat} {I : St → Prop} (hI : lx_all fu I) : ∀ (n i : Nat) (x3 : Int32), i ≤ L + 6 → L + 7 ≤ i + n → x3 = nI i → ∀ (S : St) (H : Heap) (locs : List Loc) (ls : Array Slot), I S → zx_W D a cs S H → va_S (fun q : Nat => s.heap.size ≤ q) s.heap H locs → lv_has ls 4 [(0, .ref b), (1, .ref (a 0)), (2, .ref (a 43)), (3, .int x3)] → W p l e room_1 s m #[Value.ref b] below meth c H locs 600000 7302250 (lw_Z below #[Value.ref b] s) (F0 m 18 ls []) := by
  obtain ⟨⟨hx, hb, hml, hown, hts⟩, hlk, hK, hJ, hN⟩ := id F
  have hbA : ¬ (fun q : Nat => s.heap.size ≤ q) b := Nat.not_le.mpr hbl
  obtain ⟨q0, q1, q2, q3, q4, q5, q6, q7, q8, q9, q10, q11, q12, q13, q14, q15, q16, q17, q18⟩ := hI
  intro n
  induction n with
  | zero =>
    intro i x3 h1 h2
    exact absurd h2 (by omega)
  | succ n ih =>
    intro i x3 hi hin e3 S H locs ls hi0 hW hS hl
    refine lv_iload_n hx hb dL_law_18 rfl (lv_at hl 3 rfl) ?_
    refine lv_aload_n hx hb dL_law_19 rfl (lv_at hl 0 rfl) ?_
    refine va_slen hx hb hX hbl hbA hS dL_law_20 ?_
    refine lv_bipush (v := 6) hx hb dL_law_21 (by decide) ?_
    refine lv_isub hx hb dL_law_23 ?_
    have hcmp : Int32.ofNat L - 6 < x3 ↔ L < i + 6 := by
      rw [e3, Int32.lt_iff_toInt_lt, show (6 : Int32) = nI 6 from rfl, show Int32.ofNat L = nI L from rfl, pk_sub_toInt (by omega) (by omega), nI_toInt (by omega)]
      omega
    refine lv_icmp_gt (tgt := 787) hx hb dL_law_24 (by decide) (fun c1 => ?_) (fun c1 => ?_)
    · refine lv_iconst (v := 1) hx hb dL_law_787 (by decide) ?_
      refine va_forget (fun q hq => hS.2.2 q hq) ?_
      exact lw_ret hx hb hr hlocks dL_law_788
    · have hi6 : i + 5 < L := by rw [hcmp] at c1; omega
      have hin0 : vp_in x3 L := by rw [e3]; exact vp_in_nI (by omega) (by omega)
      have hnext : ∀ (S : St) (H : Heap) (locs : List Loc) (ls : Array Slot), I S → zx_W D a cs S H → va_S (fun q : Nat => s.heap.size ≤ q) s.heap H locs → lv_has ls 4 [(0, .ref b), (1, .ref (a 0)), (2, .ref (a 43)), (3, .int x3)] → W p l e room_1 s m #[Value.ref b] below meth c H locs 600000 7302250 (lw_Z below #[Value.ref b] s) (F0 m 781 ls []) := by
        intro S H locs ls hi0 hW hS hl
        obtain ⟨x4, ex4⟩ : ∃ z : Int32, z = x3 + 6 := ⟨_, rfl⟩
        refine lv_iinc (v := x4) (lv' := [(3, .int x4), (0, .ref b), (1, .ref (a 0)), (2, .ref (a 43))]) hx hb dL_law_781 hl (k := 3) rfl (by rw [ex4]; rfl) (by decide) rfl (fun ls hl => ?_)
        refine lv_goto (tgt := 18) hx hb dL_law_784 (by decide) ?_
        exact ih (i + 6) x4 (by omega) (by omega) (by rw [ex4, e3]; exact nI_add i 6) S H locs ls hi0 hW hS (lv_sub hl [1, 2, 3, 0] rfl)
      refine lv_aload_n hx hb dL_law_27 rfl (lv_at hl 0 rfl) ?_
      refine lv_iload_n hx hb dL_law_28 rfl (lv_at hl 3 rfl) ?_
      refine va_sld hx hb hX hbl hbA hS hin0 dL_law_29 ?_
      refine lv_bipush (v := 31) hx hb dL_law_30 (by decide) ?_
      refine lv_iand hx hb dL_law_32 ?_
      obtain ⟨j, hj, ej⟩ := pk_andE (xs x3.toNatClampNeg) (m := 31) 5 (by decide)
      refine zx_nm (z := nI j) ej.symm ?_
      match j, hj with
      | 0, _ =>
        refine lv_tableIn (tgt := 124) (off := 91) hx hb dL_law_33 (by decide) (by decide) (by decide) (by decide) ?_
        exact lx_c0 F hX hbl hA hL q0 e3 hi6 hnext S H locs ls hi0 hW hS hl
      | 1, _ =>
        refine lv_tableIn (tgt := 187) (off := 154) hx hb dL_law_33 (by decide) (by decide) (by decide) (by decide) ?_
        exact lx_c1 F hX hbl hA hL q1 e3 hi6 hnext S H locs ls hi0 hW hS hl
      | 2, _ =>
        refine lv_tableIn (tgt := 210) (off := 177) hx hb dL_law_33 (by decide) (by decide) (by decide) (by decide) ?_
        exact lx_c2 F hX hbl hA hL q2 e3 hi6 hnext S H locs ls hi0 hW hS hl
      | 3, _ =>
        refine lv_tableIn (tgt := 243) (off := 210) hx hb dL_law_33 (by decide) (by decide) (by decide) (by decide) ?_
        exact lx_c3 F hX hbl hA hL q3 e3 hi6 hnext S H locs ls hi0 hW hS hl
      | 4, _ =>
        refine lv_tableIn (tgt := 266) (off := 233) hx hb dL_law_33 (by decide) (by decide) (by decide) (by decide) ?_
        exact lx_c4 F hX hbl hA hL q4 e3 hi6 hnext S H locs ls hi0 hW hS hl
      | 5, _ =>
        refine lv_tableIn (tgt := 299) (off := 266) hx hb dL_law_33 (by decide) (by decide) (by decide) (by decide) ?_
        exact lx_c5 F hX hbl hA hL q5 e3 hi6 hnext S H locs ls hi0 hW hS hl
      | 6, _ =>
        refine lv_tableIn (tgt := 332) (off := 299) hx hb dL_law_33 (by decide) (by decide) (by decide) (by decide) ?_
        exact lx_c6 F hX hbl hA hL q6 e3 hi6 hnext S H locs ls hi0 hW hS hl
      | 7, _ =>
        refine lv_tableIn (tgt := 375) (off := 342) hx hb dL_law_33 (by decide) (by decide) (by decide) (by decide) ?_
        exact lx_c7 F hX hbl hA hL q7 e3 hi6 hnext S H locs ls hi0 hW hS hl
      | 8, _ =>
        refine lv_tableIn (tgt := 418) (off := 385) hx hb dL_law_33 (by decide) (by decide) (by decide) (by decide) ?_
        exact lx_c8 F hX hbl hA hL q8 e3 hi6 hnext S H locs ls hi0 hW hS hl
      | 9, _ =>
        refine lv_tableIn (tgt := 461) (off := 428) hx hb dL_law_33 (by decide) (by decide) (by decide) (by decide) ?_
        exact lx_c9 F hX hbl hA hL q9 e3 hi6 hnext S H locs ls hi0 hW hS hl
      | 10, _ =>
        refine lv_tableIn (tgt := 484) (off := 451) hx hb dL_law_33 (by decide) (by decide) (by decide) (by decide) ?_
        exact lx_c10 F hX hbl hA hL q10 e3 hi6 hnext S H locs ls hi0 hW hS hl
      | 11, _ =>
        refine lv_tableIn (tgt := 507) (off := 474) hx hb dL_law_33 (by decide) (by decide) (by decide) (by decide) ?_
        exact lx_c11 F hX hbl hA hL q11 e3 hi6 hnext S H locs ls hi0 hW hS hl
      | 12, _ =>
        refine lv_tableIn (tgt := 530) (off := 497) hx hb dL_law_33 (by decide) (by decide) (by decide) (by decide) ?_
        exact lx_c12 F hX hbl hA hL q12 e3 hi6 hnext S H locs ls hi0 hW hS hl
      | 13, _ =>
        refine lv_tableIn (tgt := 543) (off := 510) hx hb dL_law_33 (by decide) (by decide) (by decide) (by decide) ?_
        exact lx_c13 F hX hbl hA hL q13 e3 hi6 hnext S H locs ls hi0 hW hS hl
      | 14, _ =>
        refine lv_tableIn (tgt := 566) (off := 533) hx hb dL_law_33 (by decide) (by decide) (by decide) (by decide) ?_
        exact lx_c14 F hX hbl hA hL q14 e3 hi6 hnext S H locs ls hi0 hW hS hl
      | 15, _ =>
        refine lv_tableIn (tgt := 629) (off := 596) hx hb dL_law_33 (by decide) (by decide) (by decide) (by decide) ?_
        exact lx_c15 F hX hbl hA hL q15 e3 hi6 hnext S H locs ls hi0 hW hS hl
      | 16, _ =>
        refine lv_tableIn (tgt := 652) (off := 619) hx hb dL_law_33 (by decide) (by decide) (by decide) (by decide) ?_
        exact lx_c16 F hX hbl hA hL q16 e3 hi6 hnext S H locs ls hi0 hW hS hl
      | 17, _ =>
        refine lv_tableIn (tgt := 705) (off := 672) hx hb dL_law_33 (by decide) (by decide) (by decide) (by decide) ?_
        exact lx_c17 F hX hbl hA hL q17 e3 hi6 hnext S H locs ls hi0 hW hS hl
      | 18, _ =>
        refine lv_tableIn (tgt := 758) (off := 725) hx hb dL_law_33 (by decide) (by decide) (by decide) (by decide) ?_
        exact lx_c18 F hX hbl hA hL q18 e3 hi6 hnext S H locs ls hi0 hW hS hl
      | j + 19, hj =>
        refine lv_tableOut (tgt := 781) hx hb dL_law_33 (Or.inr (by rw [nI_toInt (by omega)]; omega)) (by decide) ?_
        exact hnext S H locs ls hi0 hW hS hl

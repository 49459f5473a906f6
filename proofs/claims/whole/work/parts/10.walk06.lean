theorem Y_X9_lay : zx_Y yX9_lay cX9_lay 9 none 2 := ⟨wc_X9_lay, wn_X9, by decide, by decide, by decide +kernel⟩
set_option maxHeartbeats 4000000 in
set_option maxRecDepth 100000 in
theorem k_X9_lay_L194 {l : Launch} {D : va_G} {a : Nat → Nat} {cs : zx_C} {p : Program} {e : Env} {s : State} {m : MethodId} {below : List Frame} {meth : Method} {c : Code} {fu : Nat} {p0 : Int32} {p1 : Int32}  (F : zx_F D a cs p m c cX9_lay 9 s ([.ref (a 43), .int p0, .int p1] : List Value).toArray RX9 meth) (hr : meth.sig.returnType = none) {r9 : Int32} {S9 : St}    : ∀ (n : Nat) (v1 : Int32) (v3 : Int32) (v4 : Int32) (v5 : Int32) (S : St), f_X9_lay_L194 fu p0 p1   n v1 v3 v4 v5 S = some (r9, S9) → ∀ (H : Heap) (locs : List Loc) (ls : Array Slot), zx_W D a cs S H → va_S (zx_A a) s.heap H locs → lv_has ls 9 [(0, .ref (a 43)), (1, .int v1), (3, .int v3), (4, .int v4), (5, .int v5)] → W p l e ({ frames := 3, cells := 0, slots := 0, locals := 75 }) s m ([.ref (a 43), .int p0, .int p1] : List Value).toArray below meth c H locs 0 0 (MQ below (zx_Qv D a cs S9) ([.ref (a 43), .int p0, .int p1] : List Value).toArray s 0 0 (zx_A a)) (F0 m 194 ls []) := by
  obtain ⟨⟨hx, hb, hml, hown, hts⟩, hlk, hK, hJ, hN⟩ := id F
  intro n
  induction n with
  | zero =>
    intro v1 v3 v4 v5 S h
    exact absurd h (fun q => by cases q)
  | succ n ih =>
    intro v1 v3 v4 v5 S h H locs ls hW hS hl
    rw [f_X9_lay_L194_s] at h
    refine lv_iload hx hb dX9_lay_194 (lv_at hl 4 rfl) ?_
    refine lv_iload hx hb dX9_lay_196 (lv_at hl 3 rfl) ?_
    refine lv_icmp_ge (tgt := 289) hx hb dX9_lay_198 (by decide) (fun c13 => ?_) (fun c13 => ?_)
    · have h := g_t c13 h
      exact zx_rv F hr hW hS h dX9_lay_289
    · have h := g_f c13 h
      refine lv_aload_n hx hb dX9_lay_201 rfl (lv_at hl 0 rfl) ?_
      refine zx_get (C := RX9) (T := TX9) (N := 35) F hW wu_X9 (by decide) zx_E43 rfl 8 (by decide) wf_X9_30 rfl dX9_lay_202 ?_
      refine lv_iload_n hx hb dX9_lay_205 rfl (lv_at hl 2 rfl) ?_
      refine lv_iload hx hb dX9_lay_206 (lv_at hl 4 rfl) ?_
      refine lv_iadd hx hb dX9_lay_208 ?_
      obtain ⟨c14, h⟩ := g_no h
      refine zx_iald (n := 86016) F hW (by decide) zx_E50 c14 dX9_lay_209 ?_
      obtain ⟨x15, ex15, h⟩ := g_pin h
      refine zx_nm ex15 ?_
      refine lv_istore (lv' := [(6, .int x15), (0, .ref (a 43)), (1, .int v1), (3, .int v3), (4, .int v4), (5, .int v5)]) hx hb dX9_lay_210 hl (by decide) rfl (fun ls hl => ?_)
      refine lv_aload_n hx hb dX9_lay_212 rfl (lv_at hl 1 rfl) ?_
      refine zx_get (C := RX9) (T := TX9) (N := 35) F hW wu_X9 (by decide) zx_E43 rfl 9 (by decide) wf_X9_33 rfl dX9_lay_213 ?_
      refine lv_iload_n hx hb dX9_lay_216 rfl (lv_at hl 3 rfl) ?_
      refine lv_iload hx hb dX9_lay_217 (lv_at hl 5 rfl) ?_
      refine lv_iadd hx hb dX9_lay_219 ?_
      refine lv_aload_n hx hb dX9_lay_220 rfl (lv_at hl 1 rfl) ?_
      refine zx_get (C := RX9) (T := TX9) (N := 35) F hW wu_X9 (by decide) zx_E43 rfl 5 (by decide) wf_X9_19 rfl dX9_lay_221 ?_
      refine lv_sipush (v := 256) hx hb dX9_lay_224 (by decide) ?_
      refine lv_iload_n hx hb dX9_lay_227 rfl (lv_at hl 2 rfl) ?_
      refine lv_imul hx hb dX9_lay_228 ?_
      refine lv_iload hx hb dX9_lay_229 (lv_at hl 0 rfl) ?_
      refine lv_iadd hx hb dX9_lay_231 ?_
      obtain ⟨c16, h⟩ := g_no h
      refine zx_iald (n := 1792) F hW (by decide) zx_E47 c16 dX9_lay_232 ?_
      refine lv_aload_n hx hb dX9_lay_233 rfl (lv_at hl 1 rfl) ?_
      refine zx_get (C := RX9) (T := TX9) (N := 35) F hW wu_X9 (by decide) zx_E43 rfl 14 (by decide) wf_X9_45 rfl dX9_lay_234 ?_
      refine lv_iload hx hb dX9_lay_237 (lv_at hl 0 rfl) ?_
      obtain ⟨c17, h⟩ := g_no h
      refine zx_iald (n := 256) F hW (by decide) zx_E55 c17 dX9_lay_239 ?_
      refine lv_iadd hx hb dX9_lay_240 ?_
      obtain ⟨c19, h⟩ := g_no h
      obtain ⟨S18, eS18, h⟩ := g_pin h
      refine zx_iast (n := 86016) F hW hS (by decide) (fun f => zx_E51) c19 dX9_lay_241 (fun H locs hW hS => ?_)
      have hW : zx_W D a cs S18 H := by rw [eS18]; exact hW
      refine lv_aload_n hx hb dX9_lay_242 rfl (lv_at hl 1 rfl) ?_
      refine zx_get (C := RX9) (T := TX9) (N := 35) F hW wu_X9 (by decide) zx_E43 rfl 10 (by decide) wf_X9_36 rfl dX9_lay_243 ?_
      refine lv_iload_n hx hb dX9_lay_246 rfl (lv_at hl 3 rfl) ?_
      refine lv_aload_n hx hb dX9_lay_247 rfl (lv_at hl 1 rfl) ?_
      refine zx_get (C := RX9) (T := TX9) (N := 35) F hW wu_X9 (by decide) zx_E43 rfl 6 (by decide) wf_X9_22 rfl dX9_lay_248 ?_
      refine lv_sipush (v := 256) hx hb dX9_lay_251 (by decide) ?_
      refine lv_iload_n hx hb dX9_lay_254 rfl (lv_at hl 2 rfl) ?_
      refine lv_imul hx hb dX9_lay_255 ?_
      refine lv_iload hx hb dX9_lay_256 (lv_at hl 0 rfl) ?_
      refine lv_iadd hx hb dX9_lay_258 ?_
      obtain ⟨c20, h⟩ := g_no h
      refine zx_iald (n := 1792) F hW (by decide) zx_E48 c20 dX9_lay_259 ?_
      refine lv_iadd hx hb dX9_lay_260 ?_
      refine lv_aload_n hx hb dX9_lay_261 rfl (lv_at hl 1 rfl) ?_
      refine zx_get (C := RX9) (T := TX9) (N := 35) F hW wu_X9 (by decide) zx_E43 rfl 14 (by decide) wf_X9_45 rfl dX9_lay_262 ?_
      refine lv_iload hx hb dX9_lay_265 (lv_at hl 0 rfl) ?_
      obtain ⟨c21, h⟩ := g_no h
      refine zx_iald (n := 256) F hW (by decide) zx_E55 c21 dX9_lay_267 ?_
      refine lv_iadd hx hb dX9_lay_268 ?_
      refine lv_iload hx hb dX9_lay_269 (lv_at hl 5 rfl) ?_
      obtain ⟨c23, h⟩ := g_no h
      obtain ⟨S22, eS22, h⟩ := g_pin h
      refine zx_iast (n := 86016) F hW hS (by decide) (fun f => zx_E52) c23 dX9_lay_271 (fun H locs hW hS => ?_)
      have hW : zx_W D a cs S22 H := by rw [eS22]; exact hW
      refine lv_aload_n hx hb dX9_lay_272 rfl (lv_at hl 1 rfl) ?_
      refine zx_get (C := RX9) (T := TX9) (N := 35) F hW wu_X9 (by decide) zx_E43 rfl 14 (by decide) wf_X9_45 rfl dX9_lay_273 ?_
      refine lv_iload hx hb dX9_lay_276 (lv_at hl 0 rfl) ?_
      refine lv_dup2_11 hx hb dX9_lay_278 rfl rfl ?_
      obtain ⟨c24, h⟩ := g_no h
      refine zx_iald (n := 256) F hW (by decide) zx_E55 c24 dX9_lay_279 ?_
      refine lv_iconst (v := 1) hx hb dX9_lay_280 (by decide) ?_
      refine lv_iadd hx hb dX9_lay_281 ?_
      obtain ⟨c26, h⟩ := g_no h
      obtain ⟨S25, eS25, h⟩ := g_pin h
      refine zx_iast (n := 256) F hW hS (by decide) (fun f => zx_E55) c26 dX9_lay_282 (fun H locs hW hS => ?_)
      have hW : zx_W D a cs S25 H := by rw [eS25]; exact hW
      obtain ⟨x27, ex27, h⟩ := g_pin h
      refine lv_iinc (v := x27) (lv' := [(5, .int x27), (6, .int x15), (0, .ref (a 43)), (1, .int v1), (3, .int v3), (4, .int v4)]) hx hb dX9_lay_283 hl (k := 5) rfl (by rw [ex27]; rfl) (by decide) rfl (fun ls hl => ?_)
      refine lv_goto (tgt := 194) hx hb dX9_lay_286 (by decide) ?_
      exact ih v1 v3 v4 x27 S25 h _ _ _ hW hS (lv_sub hl [2, 3, 4, 5, 0] rfl)
set_option maxHeartbeats 4000000 in
set_option maxRecDepth 100000 in
theorem k_X9_lay_L169 {l : Launch} {D : va_G} {a : Nat → Nat} {cs : zx_C} {p : Program} {e : Env} {s : State} {m : MethodId} {below : List Frame} {meth : Method} {c : Code} {fu : Nat} {p0 : Int32} {p1 : Int32}  (F : zx_F D a cs p m c cX9_lay 9 s ([.ref (a 43), .int p0, .int p1] : List Value).toArray RX9 meth) (hr : meth.sig.returnType = none) {r9 : Int32} {S9 : St}    : ∀ (n : Nat) (v1 : Int32) (v3 : Int32) (v4 : Int32) (v5 : Int32) (S : St), f_X9_lay_L169 fu p0 p1   n v1 v3 v4 v5 S = some (r9, S9) → ∀ (H : Heap) (locs : List Loc) (ls : Array Slot), zx_W D a cs S H → va_S (zx_A a) s.heap H locs → lv_has ls 9 [(0, .ref (a 43)), (1, .int v1), (3, .int v3), (4, .int v4), (5, .int v5)] → W p l e ({ frames := 3, cells := 0, slots := 0, locals := 75 }) s m ([.ref (a 43), .int p0, .int p1] : List Value).toArray below meth c H locs 0 0 (MQ below (zx_Qv D a cs S9) ([.ref (a 43), .int p0, .int p1] : List Value).toArray s 0 0 (zx_A a)) (F0 m 169 ls []) := by
  obtain ⟨⟨hx, hb, hml, hown, hts⟩, hlk, hK, hJ, hN⟩ := id F
  intro n
  induction n with
  | zero =>
    intro v1 v3 v4 v5 S h
    exact absurd h (fun q => by cases q)
  | succ n ih =>
    intro v1 v3 v4 v5 S h H locs ls hW hS hl
    rw [f_X9_lay_L169_s] at h
    refine lv_iload hx hb dX9_lay_169 (lv_at hl 4 rfl) ?_
    refine lv_sipush (v := 256) hx hb dX9_lay_171 (by decide) ?_
    refine lv_icmp_ge (tgt := 191) hx hb dX9_lay_174 (by decide) (fun c12 => ?_) (fun c12 => ?_)
    · have h := g_t c12 h
      refine lv_iconst (v := 0) hx hb dX9_lay_191 (by decide) ?_
      refine lv_istore (lv' := [(5, .int (0 : Int32)), (0, .ref (a 43)), (1, .int v1), (3, .int v3), (4, .int v4)]) hx hb dX9_lay_192 hl (by decide) rfl (fun ls hl => ?_)
      exact k_X9_lay_L194  F hr   fu v1 v3 v4 (0 : Int32) S h _ _ _ hW hS (lv_sub hl [1, 2, 3, 4, 0] rfl)
    · have h := g_f c12 h
      refine lv_aload_n hx hb dX9_lay_177 rfl (lv_at hl 0 rfl) ?_
      refine zx_get (C := RX9) (T := TX9) (N := 35) F hW wu_X9 (by decide) zx_E43 rfl 14 (by decide) wf_X9_45 rfl dX9_lay_178 ?_
      refine lv_iload hx hb dX9_lay_181 (lv_at hl 4 rfl) ?_
      refine lv_iconst (v := 0) hx hb dX9_lay_183 (by decide) ?_
      obtain ⟨c29, h⟩ := g_no h
      obtain ⟨S28, eS28, h⟩ := g_pin h
      refine zx_iast (n := 256) F hW hS (by decide) (fun f => zx_E55) c29 dX9_lay_184 (fun H locs hW hS => ?_)
      have hW : zx_W D a cs S28 H := by rw [eS28]; exact hW
      obtain ⟨x30, ex30, h⟩ := g_pin h
      refine lv_iinc (v := x30) (lv' := [(5, .int x30), (0, .ref (a 43)), (1, .int v1), (3, .int v3), (4, .int v4)]) hx hb dX9_lay_185 hl (k := 4) rfl (by rw [ex30]; rfl) (by decide) rfl (fun ls hl => ?_)
      refine lv_goto (tgt := 169) hx hb dX9_lay_188 (by decide) ?_
      exact ih v1 v3 v4 x30 S28 h _ _ _ hW hS (lv_sub hl [1, 2, 3, 4, 0] rfl)
set_option maxHeartbeats 4000000 in
set_option maxRecDepth 100000 in
theorem k_X9_lay_L166 {l : Launch} {D : va_G} {a : Nat → Nat} {cs : zx_C} {p : Program} {e : Env} {s : State} {m : MethodId} {below : List Frame} {meth : Method} {c : Code} {fu : Nat} {p0 : Int32} {p1 : Int32}  (F : zx_F D a cs p m c cX9_lay 9 s ([.ref (a 43), .int p0, .int p1] : List Value).toArray RX9 meth) (hr : meth.sig.returnType = none) {r9 : Int32} {S9 : St}    (v1 : Int32) (v3 : Int32) (v4 : Int32) (S : St) (h : f_X9_lay_L166 fu p0 p1   v1 v3 v4 S = some (r9, S9)) (H : Heap) (locs : List Loc) (ls : Array Slot) (hW : zx_W D a cs S H) (hS : va_S (zx_A a) s.heap H locs) (hl : lv_has ls 9 [(0, .ref (a 43)), (1, .int v1), (3, .int v3), (4, .int v4)]) : W p l e ({ frames := 3, cells := 0, slots := 0, locals := 75 }) s m ([.ref (a 43), .int p0, .int p1] : List Value).toArray below meth c H locs 0 0 (MQ below (zx_Qv D a cs S9) ([.ref (a 43), .int p0, .int p1] : List Value).toArray s 0 0 (zx_A a)) (F0 m 166 ls []) := by
  obtain ⟨⟨hx, hb, hml, hown, hts⟩, hlk, hK, hJ, hN⟩ := id F
  unfold f_X9_lay_L166 at h
  refine lv_iconst (v := 0) hx hb dX9_lay_166 (by decide) ?_
  refine lv_istore (lv' := [(5, .int (0 : Int32)), (0, .ref (a 43)), (1, .int v1), (3, .int v3), (4, .int v4)]) hx hb dX9_lay_167 hl (by decide) rfl (fun ls hl => ?_)
  exact k_X9_lay_L169  F hr   fu v1 v3 v4 (0 : Int32) S h _ _ _ hW hS (lv_sub hl [1, 2, 3, 4, 0] rfl)
set_option maxHeartbeats 4000000 in
set_option maxRecDepth 100000 in
theorem k_X9_lay_L115 {l : Launch} {D : va_G} {a : Nat → Nat} {cs : zx_C} {p : Program} {e : Env} {s : State} {m : MethodId} {below : List Frame} {meth : Method} {c : Code} {fu : Nat} {p0 : Int32} {p1 : Int32}  (F : zx_F D a cs p m c cX9_lay 9 s ([.ref (a 43), .int p0, .int p1] : List Value).toArray RX9 meth) (hr : meth.sig.returnType = none) {r9 : Int32} {S9 : St} {K104 : Int32 → Int32 → Int32 → Int32 → Int32 → Int32 → St → Option (Int32 × St)} (hK104 : ∀ (v1 : Int32) (v3 : Int32) (v4 : Int32) (v5 : Int32) (v6 : Int32) (v7 : Int32) (S : St), K104 v1 v3 v4 v5 v6 v7 S = some (r9, S9) → ∀ (H : Heap) (locs : List Loc) (ls : Array Slot), zx_W D a cs S H → va_S (zx_A a) s.heap H locs → lv_has ls 9 [(0, .ref (a 43)), (1, .int v1), (3, .int v3), (4, .int v4), (5, .int v5), (6, .int v6), (7, .int v7)] → W p l e ({ frames := 3, cells := 0, slots := 0, locals := 75 }) s m ([.ref (a 43), .int p0, .int p1] : List Value).toArray below meth c H locs 0 0 (MQ below (zx_Qv D a cs S9) ([.ref (a 43), .int p0, .int p1] : List Value).toArray s 0 0 (zx_A a)) (F0 m 104 ls []))  : ∀ (n : Nat) (v1 : Int32) (v3 : Int32) (v4 : Int32) (v5 : Int32) (v6 : Int32) (v7 : Int32) (v8 : Int32) (S : St), f_X9_lay_L115 fu p0 p1 K104  n v1 v3 v4 v5 v6 v7 v8 S = some (r9, S9) → ∀ (H : Heap) (locs : List Loc) (ls : Array Slot), zx_W D a cs S H → va_S (zx_A a) s.heap H locs → lv_has ls 9 [(0, .ref (a 43)), (1, .int v1), (3, .int v3), (4, .int v4), (5, .int v5), (6, .int v6), (7, .int v7), (8, .int v8)] → W p l e ({ frames := 3, cells := 0, slots := 0, locals := 75 }) s m ([.ref (a 43), .int p0, .int p1] : List Value).toArray below meth c H locs 0 0 (MQ below (zx_Qv D a cs S9) ([.ref (a 43), .int p0, .int p1] : List Value).toArray s 0 0 (zx_A a)) (F0 m 115 ls []) := by
  obtain ⟨⟨hx, hb, hml, hown, hts⟩, hlk, hK, hJ, hN⟩ := id F
  intro n
  induction n with
  | zero =>
    intro v1 v3 v4 v5 v6 v7 v8 S h
    exact absurd h (fun q => by cases q)
  | succ n ih =>
    intro v1 v3 v4 v5 v6 v7 v8 S h H locs ls hW hS hl
    rw [f_X9_lay_L115_s] at h
    refine lv_iload hx hb dX9_lay_115 (lv_at hl 7 rfl) ?_
    refine lv_aload_n hx hb dX9_lay_117 rfl (lv_at hl 0 rfl) ?_
    refine zx_get (C := RX9) (T := TX9) (N := 35) F hW wu_X9 (by decide) zx_E43 rfl 5 (by decide) wf_X9_19 rfl dX9_lay_118 ?_
    refine lv_sipush (v := 256) hx hb dX9_lay_121 (by decide) ?_
    refine lv_iload_n hx hb dX9_lay_124 rfl (lv_at hl 1 rfl) ?_
    refine lv_imul hx hb dX9_lay_125 ?_
    refine lv_iload hx hb dX9_lay_126 (lv_at hl 6 rfl) ?_
    refine lv_iadd hx hb dX9_lay_128 ?_
    obtain ⟨c31, h⟩ := g_no h
    refine zx_iald (n := 1792) F hW (by decide) zx_E47 c31 dX9_lay_129 ?_
    refine lv_icmp_ge (tgt := 160) hx hb dX9_lay_130 (by decide) (fun c32 => ?_) (fun c32 => ?_)
    · have h := g_t c32 h
      obtain ⟨x33, ex33, h⟩ := g_pin h
      refine lv_iinc (v := x33) (lv' := [(7, .int x33), (0, .ref (a 43)), (1, .int v1), (3, .int v3), (4, .int v4), (5, .int v5), (6, .int v6), (8, .int v8)]) hx hb dX9_lay_160 hl (k := 6) rfl (by rw [ex33]; rfl) (by decide) rfl (fun ls hl => ?_)
      refine lv_goto (tgt := 104) hx hb dX9_lay_163 (by decide) ?_
      exact hK104 v1 v3 v4 v5 v6 x33 S h _ _ _ hW hS (lv_sub hl [1, 2, 3, 4, 5, 6, 0] rfl)
    · have h := g_f c32 h
      refine lv_aload_n hx hb dX9_lay_133 rfl (lv_at hl 0 rfl) ?_
      refine zx_get (C := RX9) (T := TX9) (N := 35) F hW wu_X9 (by decide) zx_E43 rfl 8 (by decide) wf_X9_30 rfl dX9_lay_134 ?_
      refine lv_iload_n hx hb dX9_lay_137 rfl (lv_at hl 2 rfl) ?_
      refine lv_iload hx hb dX9_lay_138 (lv_at hl 5 rfl) ?_
      refine lv_iadd hx hb dX9_lay_140 ?_
      refine lv_iload hx hb dX9_lay_141 (lv_at hl 6 rfl) ?_
      obtain ⟨c35, h⟩ := g_no h
      obtain ⟨S34, eS34, h⟩ := g_pin h
      refine zx_iast (n := 86016) F hW hS (by decide) (fun f => zx_E50) c35 dX9_lay_143 (fun H locs hW hS => ?_)
      have hW : zx_W D a cs S34 H := by rw [eS34]; exact hW
      refine lv_iload hx hb dX9_lay_144 (lv_at hl 5 rfl) ?_
      refine lv_iload hx hb dX9_lay_146 (lv_at hl 4 rfl) ?_
      refine lv_iadd hx hb dX9_lay_148 ?_
      refine lv_iload hx hb dX9_lay_149 (lv_at hl 3 rfl) ?_
      obtain ⟨c36, h⟩ := g_no h
      refine lv_irem hx hb dX9_lay_151 c36 ?_
      obtain ⟨x37, ex37, h⟩ := g_pin h
      refine zx_nm ex37 ?_
      refine lv_istore (lv' := [(6, .int x37), (0, .ref (a 43)), (1, .int v1), (3, .int v3), (4, .int v4), (5, .int v5), (7, .int v7), (8, .int v8)]) hx hb dX9_lay_152 hl (by decide) rfl (fun ls hl => ?_)
      obtain ⟨x38, ex38, h⟩ := g_pin h
      refine lv_iinc (v := x38) (lv' := [(8, .int x38), (6, .int x37), (0, .ref (a 43)), (1, .int v1), (3, .int v3), (4, .int v4), (5, .int v5), (7, .int v7)]) hx hb dX9_lay_154 hl (k := 7) rfl (by rw [ex38]; rfl) (by decide) rfl (fun ls hl => ?_)
      refine lv_goto (tgt := 115) hx hb dX9_lay_157 (by decide) ?_
      exact ih v1 v3 v4 v5 x37 v7 x38 S34 h _ _ _ hW hS (lv_sub hl [2, 3, 4, 5, 6, 1, 7, 0] rfl)
set_option maxHeartbeats 4000000 in
set_option maxRecDepth 100000 in
theorem k_X9_lay_L104 {l : Launch} {D : va_G} {a : Nat → Nat} {cs : zx_C} {p : Program} {e : Env} {s : State} {m : MethodId} {below : List Frame} {meth : Method} {c : Code} {fu : Nat} {p0 : Int32} {p1 : Int32}  (F : zx_F D a cs p m c cX9_lay 9 s ([.ref (a 43), .int p0, .int p1] : List Value).toArray RX9 meth) (hr : meth.sig.returnType = none) {r9 : Int32} {S9 : St}    : ∀ (n : Nat) (v1 : Int32) (v3 : Int32) (v4 : Int32) (v5 : Int32) (v6 : Int32) (v7 : Int32) (S : St), f_X9_lay_L104 fu p0 p1   n v1 v3 v4 v5 v6 v7 S = some (r9, S9) → ∀ (H : Heap) (locs : List Loc) (ls : Array Slot), zx_W D a cs S H → va_S (zx_A a) s.heap H locs → lv_has ls 9 [(0, .ref (a 43)), (1, .int v1), (3, .int v3), (4, .int v4), (5, .int v5), (6, .int v6), (7, .int v7)] → W p l e ({ frames := 3, cells := 0, slots := 0, locals := 75 }) s m ([.ref (a 43), .int p0, .int p1] : List Value).toArray below meth c H locs 0 0 (MQ below (zx_Qv D a cs S9) ([.ref (a 43), .int p0, .int p1] : List Value).toArray s 0 0 (zx_A a)) (F0 m 104 ls []) := by
  obtain ⟨⟨hx, hb, hml, hown, hts⟩, hlk, hK, hJ, hN⟩ := id F
  intro n
  induction n with
  | zero =>
    intro v1 v3 v4 v5 v6 v7 S h
    exact absurd h (fun q => by cases q)
  | succ n ih =>
    intro v1 v3 v4 v5 v6 v7 S h H locs ls hW hS hl
    rw [f_X9_lay_L104_s] at h
    refine lv_iload hx hb dX9_lay_104 (lv_at hl 6 rfl) ?_
    refine lv_sipush (v := 256) hx hb dX9_lay_106 (by decide) ?_
    refine lv_icmp_ge (tgt := 166) hx hb dX9_lay_109 (by decide) (fun c11 => ?_) (fun c11 => ?_)
    · have h := g_t c11 h
      exact k_X9_lay_L166  F hr   v1 v3 v4 S h _ _ _ hW hS (lv_sub hl [0, 1, 2, 3] rfl)
    · have h := g_f c11 h
      refine lv_iconst (v := 0) hx hb dX9_lay_112 (by decide) ?_
      refine lv_istore (lv' := [(8, .int (0 : Int32)), (0, .ref (a 43)), (1, .int v1), (3, .int v3), (4, .int v4), (5, .int v5), (6, .int v6), (7, .int v7)]) hx hb dX9_lay_113 hl (by decide) rfl (fun ls hl => ?_)
      exact k_X9_lay_L115  F hr ih  fu v1 v3 v4 v5 v6 v7 (0 : Int32) S h _ _ _ hW hS (lv_sub hl [1, 2, 3, 4, 5, 6, 7, 0] rfl)
set_option maxHeartbeats 4000000 in
set_option maxRecDepth 100000 in
theorem k_X9_lay_L98 {l : Launch} {D : va_G} {a : Nat → Nat} {cs : zx_C} {p : Program} {e : Env} {s : State} {m : MethodId} {below : List Frame} {meth : Method} {c : Code} {fu : Nat} {p0 : Int32} {p1 : Int32}  (F : zx_F D a cs p m c cX9_lay 9 s ([.ref (a 43), .int p0, .int p1] : List Value).toArray RX9 meth) (hr : meth.sig.returnType = none) {r9 : Int32} {S9 : St}    (v1 : Int32) (v3 : Int32) (v4 : Int32) (v5 : Int32) (S : St) (h : f_X9_lay_L98 fu p0 p1   v1 v3 v4 v5 S = some (r9, S9)) (H : Heap) (locs : List Loc) (ls : Array Slot) (hW : zx_W D a cs S H) (hS : va_S (zx_A a) s.heap H locs) (hl : lv_has ls 9 [(0, .ref (a 43)), (1, .int v1), (3, .int v3), (4, .int v4), (5, .int v5)]) : W p l e ({ frames := 3, cells := 0, slots := 0, locals := 75 }) s m ([.ref (a 43), .int p0, .int p1] : List Value).toArray below meth c H locs 0 0 (MQ below (zx_Qv D a cs S9) ([.ref (a 43), .int p0, .int p1] : List Value).toArray s 0 0 (zx_A a)) (F0 m 98 ls []) := by
  obtain ⟨⟨hx, hb, hml, hown, hts⟩, hlk, hK, hJ, hN⟩ := id F
  unfold f_X9_lay_L98 at h
  refine lv_iconst (v := 0) hx hb dX9_lay_98 (by decide) ?_
  refine lv_istore (lv' := [(6, .int (0 : Int32)), (0, .ref (a 43)), (1, .int v1), (3, .int v3), (4, .int v4), (5, .int v5)]) hx hb dX9_lay_99 hl (by decide) rfl (fun ls hl => ?_)
  refine lv_iconst (v := 0) hx hb dX9_lay_101 (by decide) ?_
  refine lv_istore (lv' := [(7, .int (0 : Int32)), (6, .int (0 : Int32)), (0, .ref (a 43)), (1, .int v1), (3, .int v3), (4, .int v4), (5, .int v5)]) hx hb dX9_lay_102 hl (by decide) rfl (fun ls hl => ?_)
  exact k_X9_lay_L104  F hr   fu v1 v3 v4 v5 (0 : Int32) (0 : Int32) S h _ _ _ hW hS (lv_sub hl [2, 3, 4, 5, 6, 1, 0] rfl)
set_option maxHeartbeats 4000000 in
set_option maxRecDepth 100000 in
theorem k_X9_lay_L81 {l : Launch} {D : va_G} {a : Nat → Nat} {cs : zx_C} {p : Program} {e : Env} {s : State} {m : MethodId} {below : List Frame} {meth : Method} {c : Code} {fu : Nat} {p0 : Int32} {p1 : Int32}  (F : zx_F D a cs p m c cX9_lay 9 s ([.ref (a 43), .int p0, .int p1] : List Value).toArray RX9 meth) (hr : meth.sig.returnType = none) {r9 : Int32} {S9 : St}    (v1 : Int32) (v2 : Int32) (v3 : Int32) (v4 : Int32) (t0 : Int32) (S : St) (h : f_X9_lay_L81 fu p0 p1   v1 v2 v3 v4 t0 S = some (r9, S9)) (H : Heap) (locs : List Loc) (ls : Array Slot) (hW : zx_W D a cs S H) (hS : va_S (zx_A a) s.heap H locs) (hl : lv_has ls 9 [(0, .ref (a 43)), (1, .int v1), (2, .int v2), (3, .int v3), (4, .int v4)]) : W p l e ({ frames := 3, cells := 0, slots := 0, locals := 75 }) s m ([.ref (a 43), .int p0, .int p1] : List Value).toArray below meth c H locs 0 0 (MQ below (zx_Qv D a cs S9) ([.ref (a 43), .int p0, .int p1] : List Value).toArray s 0 0 (zx_A a)) (F0 m 81 ls [.int t0]) := by
  obtain ⟨⟨hx, hb, hml, hown, hts⟩, hlk, hK, hJ, hN⟩ := id F
  unfold f_X9_lay_L81 at h
  refine lv_istore (lv' := [(5, .int t0), (0, .ref (a 43)), (1, .int v1), (2, .int v2), (3, .int v3), (4, .int v4)]) hx hb dX9_lay_81 hl (by decide) rfl (fun ls hl => ?_)
  refine lv_iload_n hx hb dX9_lay_83 rfl (lv_at hl 3 rfl) ?_
  refine lv_iconst (v := 1) hx hb dX9_lay_84 (by decide) ?_
  refine lv_icmp_ne (tgt := 98) hx hb dX9_lay_85 (by decide) (fun c10 => ?_) (fun c10 => ?_)
  · have h := g_f c10 h
    exact k_X9_lay_L98  F hr   v1 v3 v4 t0 S h _ _ _ hW hS (lv_sub hl [1, 2, 4, 5, 0] rfl)
  · have h := g_t c10 h
    refine lv_iload hx hb dX9_lay_88 (lv_at hl 0 rfl) ?_
    refine lv_iconst (v := 2) hx hb dX9_lay_90 (by decide) ?_
    refine lv_irem hx hb dX9_lay_91 (by decide) ?_
    refine lv_if_ne (tgt := 98) hx hb dX9_lay_92 (by decide) (fun c39 => ?_) (fun c39 => ?_)
    · have h := g_f c39 h
      exact k_X9_lay_L98  F hr   v1 v3 v4 t0 S h _ _ _ hW hS (lv_sub hl [1, 2, 4, 5, 0] rfl)
    · have h := g_t c39 h
      obtain ⟨x40, ex40, h⟩ := g_pin h
      refine lv_iinc (v := x40) (lv' := [(5, .int x40), (0, .ref (a 43)), (1, .int v1), (2, .int v2), (3, .int v3), (4, .int v4)]) hx hb dX9_lay_95 hl (k := 0) rfl (by rw [ex40]; rfl) (by decide) rfl (fun ls hl => ?_)
      exact k_X9_lay_L98  F hr   v1 v3 v4 x40 S h _ _ _ hW hS (lv_sub hl [1, 2, 4, 5, 0] rfl)
set_option maxHeartbeats 4000000 in
set_option maxRecDepth 100000 in
theorem c_X9_lay (l : Launch) (D : va_G) (a : Nat → Nat) (cs : zx_C) (fu : Nat) (p0 : Int32) (p1 : Int32)  (S : St) (r9 : Int32) (S9 : St) (h : f_X9_lay fu p0 p1 S = some (r9, S9)) : Met l yX9_lay (Cond.code yX9_lay cX9_lay 9 none :: zx_tb) ({ frames := 3, cells := 0, slots := 0, locals := 75 }) (zx_P D a cs [.ref (a 43), .int p0, .int p1] S) (zx_Qv D a cs S9) 0 0 (zx_A a) := by
  refine zx_met (own := RX9) (by decide) (Nat.le_of_ble_eq_true rfl) rfl ?_
  intro p e s m below meth c ls F hr hW hS hl
  have hl : lv_has ls 9 [(0, .ref (a 43)), (1, .int p0), (2, .int p1)] := hl
  obtain ⟨⟨hx, hb, hml, hown, hts⟩, hlk, hK, hJ, hN⟩ := id F
  unfold f_X9_lay at h
  refine lv_aload_n hx hb dX9_lay_0 rfl (lv_at hl 0 rfl) ?_
  refine zx_get (C := RX9) (T := TX9) (N := 35) F hW wu_X9 (by decide) zx_E43 rfl 7 (by decide) wf_X9_25 rfl dX9_lay_1 ?_
  refine lv_iconst (v := 3) hx hb dX9_lay_4 (by decide) ?_
  refine lv_iload_n hx hb dX9_lay_5 rfl (lv_at hl 1 rfl) ?_
  refine lv_imul hx hb dX9_lay_6 ?_
  refine lv_iload_n hx hb dX9_lay_7 rfl (lv_at hl 2 rfl) ?_
  refine lv_iadd hx hb dX9_lay_8 ?_
  obtain ⟨c1, h⟩ := g_no h
  refine zx_zald (n := 21) F hW (by decide) zx_E49 c1 dX9_lay_9 ?_
  refine lv_if_eq (tgt := 14) hx hb dX9_lay_10 (by decide) (fun c2 => ?_) (fun c2 => ?_)
  · have h := g_t c2 h
    refine lv_aload_n hx hb dX9_lay_14 rfl (lv_at hl 0 rfl) ?_
    refine zx_get (C := RX9) (T := TX9) (N := 35) F hW wu_X9 (by decide) zx_E43 rfl 7 (by decide) wf_X9_25 rfl dX9_lay_15 ?_
    refine lv_iconst (v := 3) hx hb dX9_lay_18 (by decide) ?_
    refine lv_iload_n hx hb dX9_lay_19 rfl (lv_at hl 1 rfl) ?_
    refine lv_imul hx hb dX9_lay_20 ?_
    refine lv_iload_n hx hb dX9_lay_21 rfl (lv_at hl 2 rfl) ?_
    refine lv_iadd hx hb dX9_lay_22 ?_
    refine lv_iconst (v := 1) hx hb dX9_lay_23 (by decide) ?_
    obtain ⟨c4, h⟩ := g_no h
    obtain ⟨S3, eS3, h⟩ := g_pin h
    refine zx_zast (n := 21) F hW hS (by decide) (fun f => zx_E49) c4 dX9_lay_24 (fun H locs hW hS => ?_)
    have hW : zx_W D a cs S3 H := by rw [eS3]; exact hW
    refine lv_sipush (v := 4096) hx hb dX9_lay_25 (by decide) ?_
    refine lv_iconst (v := 3) hx hb dX9_lay_28 (by decide) ?_
    refine lv_iload_n hx hb dX9_lay_29 rfl (lv_at hl 1 rfl) ?_
    refine lv_imul hx hb dX9_lay_30 ?_
    refine lv_iload_n hx hb dX9_lay_31 rfl (lv_at hl 2 rfl) ?_
    refine lv_iadd hx hb dX9_lay_32 ?_
    refine lv_imul hx hb dX9_lay_33 ?_
    obtain ⟨x5, ex5, h⟩ := g_pin h
    refine zx_nm ex5 ?_
    refine lv_istore_n (lv' := [(3, .int x5), (0, .ref (a 43)), (1, .int p0), (2, .int p1)]) hx hb dX9_lay_34 rfl hl (by decide) rfl (fun ls hl => ?_)
    refine lv_iconst (v := 1) hx hb dX9_lay_35 (by decide) ?_
    refine lv_aload_n hx hb dX9_lay_36 rfl (lv_at hl 1 rfl) ?_
    refine zx_get (C := RX9) (T := TX9) (N := 35) F hW wu_X9 (by decide) zx_E43 rfl 4 (by decide) wf_X9_16 rfl dX9_lay_37 ?_
    refine lv_iload_n hx hb dX9_lay_40 rfl (lv_at hl 2 rfl) ?_
    obtain ⟨c6, h⟩ := g_no h
    refine zx_iald (n := 7) F hW (by decide) zx_E46 c6 dX9_lay_41 ?_
    refine lv_ishl hx hb dX9_lay_42 ?_
    obtain ⟨x7, ex7, h⟩ := g_pin h
    refine zx_nm ex7 ?_
    refine lv_istore (lv' := [(4, .int x7), (3, .int x5), (0, .ref (a 43)), (1, .int p0), (2, .int p1)]) hx hb dX9_lay_43 hl (by decide) rfl (fun ls hl => ?_)
    refine lv_iload_n hx hb dX9_lay_45 rfl (lv_at hl 4 rfl) ?_
    refine lv_iconst (v := 2) hx hb dX9_lay_46 (by decide) ?_
    refine lv_icmp_ne (tgt := 61) hx hb dX9_lay_47 (by decide) (fun c8 => ?_) (fun c8 => ?_)
    · have h := g_f c8 h
      refine lv_iload_n hx hb dX9_lay_61 rfl (lv_at hl 4 rfl) ?_
      refine lv_if_ne (tgt := 69) hx hb dX9_lay_62 (by decide) (fun c9 => ?_) (fun c9 => ?_)
      · have h := g_f c9 h
        refine lv_iload hx hb dX9_lay_69 (lv_at hl 0 rfl) ?_
        refine lv_iconst (v := 2) hx hb dX9_lay_71 (by decide) ?_
        refine lv_idiv hx hb dX9_lay_72 (by decide) ?_
        refine lv_iload hx hb dX9_lay_73 (lv_at hl 0 rfl) ?_
        refine lv_bipush (v := 8) hx hb dX9_lay_75 (by decide) ?_
        refine lv_idiv hx hb dX9_lay_77 (by decide) ?_
        refine lv_iadd hx hb dX9_lay_78 ?_
        refine lv_iconst (v := 3) hx hb dX9_lay_79 (by decide) ?_
        refine lv_iadd hx hb dX9_lay_80 ?_
        exact k_X9_lay_L81  F hr   p0 p1 x5 x7 (((x7 / (2 : Int32)) + (x7 / (8 : Int32))) + (3 : Int32)) S3 h _ _ _ hW hS (lv_sub hl [2, 3, 4, 1, 0] rfl)
      · have h := g_t c9 h
        refine lv_iconst (v := 1) hx hb dX9_lay_65 (by decide) ?_
        refine lv_goto (tgt := 81) hx hb dX9_lay_66 (by decide) ?_
        exact k_X9_lay_L81  F hr   p0 p1 x5 x7 (1 : Int32) S3 h _ _ _ hW hS (lv_sub hl [2, 3, 4, 1, 0] rfl)
    · have h := g_t c8 h
      refine lv_aload_n hx hb dX9_lay_50 rfl (lv_at hl 2 rfl) ?_
      refine lv_iload_n hx hb dX9_lay_51 rfl (lv_at hl 3 rfl) ?_
      refine lv_iload_n hx hb dX9_lay_52 rfl (lv_at hl 1 rfl) ?_
      refine lv_iload hx hb dX9_lay_53 (lv_at hl 0 rfl) ?_
      obtain ⟨r41, S42, h43, h⟩ := g_bd h
      refine zx_cv (zx_runV (q := (RX9, TX9, 35)) (As := [.int p0, .int x5, .int x7]) (rest := []) F hW (c_X9_even l D a cs fu p0 x5 x7  S3 r41 S42 h43) Y_X9_even wi_X9_even ws_X9_even wm_X9_88 ⟨rfl, rfl, Nat.le_of_ble_eq_true rfl, Nat.le_of_ble_eq_true rfl, Nat.le_of_ble_eq_true rfl, Nat.le_of_ble_eq_true rfl⟩ (by decide) zx_E43 rfl rfl hl.1 rfl (Nat.le_of_ble_eq_true rfl) dX9_lay_55) hS (fun H locs hW hS => ?_)
      refine lv_goto (tgt := 166) hx hb dX9_lay_58 (by decide) ?_
      exact k_X9_lay_L166  F hr   p0 x5 x7 S42 h _ _ _ hW hS (lv_sub hl [2, 3, 1, 0] rfl)
  · have h := g_f c2 h
    exact zx_rv F hr hW hS h dX9_lay_13
theorem Y_X9_isAsked : zx_Y yX9_isAsked cX9_isAsked 5 (some (.boolean)) 4 := ⟨wc_X9_isAsked, wn_X9, by decide, by decide, by decide +kernel⟩
set_option maxHeartbeats 4000000 in
set_option maxRecDepth 100000 in
theorem c_X9_isAsked (l : Launch) (D : va_G) (a : Nat → Nat) (cs : zx_C) (fu : Nat) (p0 : Int32) (p1 : Int32) (p2 : Int32) (p3 : Int32)  (S : St) (r9 : Int32) (S9 : St) (h : f_X9_isAsked fu p0 p1 p2 p3 S = some (r9, S9)) : Met l yX9_isAsked (Cond.code yX9_isAsked cX9_isAsked 5 (some (.boolean)) :: zx_tb) ({ frames := 4, cells := 0, slots := 0, locals := 103 }) (zx_P D a cs [.ref (a 43), .int p0, .int p1, .int p2, .int p3] S) (zx_Qi D a cs r9 S9) 0 0 (zx_A a) := by
  refine zx_met (own := RX9) (by decide) (Nat.le_of_ble_eq_true rfl) rfl ?_
  intro p e s m below meth c ls F hr hW hS hl
  have hl : lv_has ls 5 [(0, .ref (a 43)), (1, .int p0), (2, .int p1), (3, .int p2), (4, .int p3)] := hl
  obtain ⟨⟨hx, hb, hml, hown, hts⟩, hlk, hK, hJ, hN⟩ := id F
  unfold f_X9_isAsked at h
  refine lv_aload_n hx hb dX9_isAsked_0 rfl (lv_at hl 0 rfl) ?_
  refine lv_iload_n hx hb dX9_isAsked_1 rfl (lv_at hl 1 rfl) ?_
  obtain ⟨r1, S2, h3, h⟩ := g_bd h
  refine zx_ci (zx_runV (q := (RX9, TX9, 35)) (As := [.int p0]) (rest := []) F hW (c_X9_isTable l D a cs p0  S r1 S2 h3) Y_X9_isTable wi_X9_isTable ws_X9_isTable wm_X9_84 ⟨rfl, rfl, Nat.le_of_ble_eq_true rfl, Nat.le_of_ble_eq_true rfl, Nat.le_of_ble_eq_true rfl, Nat.le_of_ble_eq_true rfl⟩ (by decide) zx_E43 rfl rfl hl.1 rfl (Nat.le_of_ble_eq_true rfl) dX9_isAsked_2) hS (fun H locs hW hS => ?_)
  refine lv_if_eq (tgt := 27) hx hb dX9_isAsked_5 (by decide) (fun c4 => ?_) (fun c4 => ?_)
  · have h := g_t c4 h
    refine lv_iconst (v := 0) hx hb dX9_isAsked_27 (by decide) ?_
    exact zx_rz F hr (by decide) hW hS h dX9_isAsked_28
  · have h := g_f c4 h
    refine lv_iload_n hx hb dX9_isAsked_8 rfl (lv_at hl 2 rfl) ?_
    refine lv_iload_n hx hb dX9_isAsked_9 rfl (lv_at hl 3 rfl) ?_
    obtain ⟨r5, S6, h7, h⟩ := g_bd h
    refine zx_ci (zx_runS (As := [.int p1, .int p2]) (rest := []) F hW (c_X9_isWay l D a cs p1 p2  S2 r5 S6 h7) Y_X9_isWay wt_X9_isWay wm_X9_119 ⟨rfl, rfl, Nat.le_of_ble_eq_true rfl, Nat.le_of_ble_eq_true rfl, Nat.le_of_ble_eq_true rfl, Nat.le_of_ble_eq_true rfl⟩ rfl hl.1 rfl (Nat.le_of_ble_eq_true rfl) dX9_isAsked_10) hS (fun H locs hW hS => ?_)
    refine lv_if_eq (tgt := 27) hx hb dX9_isAsked_13 (by decide) (fun c8 => ?_) (fun c8 => ?_)
    · have h := g_t c8 h
      refine lv_iconst (v := 0) hx hb dX9_isAsked_27 (by decide) ?_
      exact zx_rz F hr (by decide) hW hS h dX9_isAsked_28
    · have h := g_f c8 h
      refine lv_aload_n hx hb dX9_isAsked_16 rfl (lv_at hl 0 rfl) ?_
      refine lv_iload_n hx hb dX9_isAsked_17 rfl (lv_at hl 1 rfl) ?_
      refine lv_iload_n hx hb dX9_isAsked_18 rfl (lv_at hl 2 rfl) ?_
      refine lv_iload hx hb dX9_isAsked_19 (lv_at hl 4 rfl) ?_
      obtain ⟨r9, S10, h11, h⟩ := g_bd h
      refine zx_ci (zx_runV (q := (RX9, TX9, 35)) (As := [.int p0, .int p1, .int p3]) (rest := []) F hW (c_X9_isState l D a cs p0 p1 p3  S6 r9 S10 h11) Y_X9_isState wi_X9_isState ws_X9_isState wm_X9_123 ⟨rfl, rfl, Nat.le_of_ble_eq_true rfl, Nat.le_of_ble_eq_true rfl, Nat.le_of_ble_eq_true rfl, Nat.le_of_ble_eq_true rfl⟩ (by decide) zx_E43 rfl rfl hl.1 rfl (Nat.le_of_ble_eq_true rfl) dX9_isAsked_21) hS (fun H locs hW hS => ?_)
      refine lv_if_ne (tgt := 29) hx hb dX9_isAsked_24 (by decide) (fun c12 => ?_) (fun c12 => ?_)
      · have h := g_f c12 h
        refine lv_aload_n hx hb dX9_isAsked_29 rfl (lv_at hl 0 rfl) ?_
        refine lv_iload_n hx hb dX9_isAsked_30 rfl (lv_at hl 1 rfl) ?_
        refine lv_iload_n hx hb dX9_isAsked_31 rfl (lv_at hl 3 rfl) ?_
        obtain ⟨r13, S14, h15, h⟩ := g_bd h
        refine zx_cv (zx_runV (q := (RX9, TX9, 35)) (As := [.int p0, .int p2]) (rest := []) F hW (c_X9_lay l D a cs fu p0 p2  S10 r13 S14 h15) Y_X9_lay wi_X9_lay ws_X9_lay wm_X9_106 ⟨rfl, rfl, Nat.le_of_ble_eq_true rfl, Nat.le_of_ble_eq_true rfl, Nat.le_of_ble_eq_true rfl, Nat.le_of_ble_eq_true rfl⟩ (by decide) zx_E43 rfl rfl hl.1 rfl (Nat.le_of_ble_eq_true rfl) dX9_isAsked_32) hS (fun H locs hW hS => ?_)
        refine lv_iconst (v := 1) hx hb dX9_isAsked_35 (by decide) ?_
        exact zx_rz F hr (by decide) hW hS h dX9_isAsked_36
      · have h := g_t c12 h
        refine lv_iconst (v := 0) hx hb dX9_isAsked_27 (by decide) ?_
        exact zx_rz F hr (by decide) hW hS h dX9_isAsked_28
theorem Y_X9_step : zx_Y yX9_step cX9_step 11 none 5 := ⟨wc_X9_step, wn_X9, by decide, by decide, by decide +kernel⟩
set_option maxHeartbeats 4000000 in
set_option maxRecDepth 100000 in
theorem k_X9_step_L142 {l : Launch} {D : va_G} {a : Nat → Nat} {cs : zx_C} {p : Program} {e : Env} {s : State} {m : MethodId} {below : List Frame} {meth : Method} {c : Code} {fu : Nat} {p0 : Int32} {p1 : Int32} {p2 : Int32} {p3 : Int32} {p4 : Int32}  (F : zx_F D a cs p m c cX9_step 11 s ([.ref (a 43), .int p0, .int p1, .int p2, .int p3, .int p4] : List Value).toArray RX9 meth) (hr : meth.sig.returnType = none) {r9 : Int32} {S9 : St}    : ∀ (n : Nat) (v1 : Int32) (v4 : Int32) (v5 : Int32) (v6 : Int32) (v7 : Int32) (v8 : Int64) (v10 : Int32) (S : St), f_X9_step_L142 fu p0 p1 p2 p3 p4   n v1 v4 v5 v6 v7 v8 v10 S = some (r9, S9) → ∀ (H : Heap) (locs : List Loc) (ls : Array Slot), zx_W D a cs S H → va_S (zx_A a) s.heap H locs → lv_has ls 11 [(0, .ref (a 43)), (1, .int v1), (4, .int v4), (5, .int v5), (6, .int v6), (7, .int v7), (8, .long v8), (10, .int v10)] → W p l e ({ frames := 0, cells := 0, slots := 0, locals := 0 }) s m ([.ref (a 43), .int p0, .int p1, .int p2, .int p3, .int p4] : List Value).toArray below meth c H locs 0 0 (MQ below (zx_Qv D a cs S9) ([.ref (a 43), .int p0, .int p1, .int p2, .int p3, .int p4] : List Value).toArray s 0 0 (zx_A a)) (F0 m 142 ls []) := by
  obtain ⟨⟨hx, hb, hml, hown, hts⟩, hlk, hK, hJ, hN⟩ := id F
  intro n
  induction n with
  | zero =>
    intro v1 v4 v5 v6 v7 v8 v10 S h
    exact absurd h (fun q => by cases q)
  | succ n ih =>
    intro v1 v4 v5 v6 v7 v8 v10 S h H locs ls hW hS hl
    rw [f_X9_step_L142_s] at h
    refine lv_iload hx hb dX9_step_142 (lv_at hl 7 rfl) ?_
    refine lv_i2l hx hb dX9_step_144 rfl ?_
    refine lv_lload hx hb dX9_step_145 (lv_at hl 6 rfl) ?_
    refine W.lcmp hx hb dX9_step_147 ?_
    refine lv_if_lt (tgt := 171) hx hb dX9_step_148 (by decide) (fun c8 => ?_) (fun c8 => ?_)
    · have h := g_t c8 h
      refine lv_aload_n hx hb dX9_step_171 rfl (lv_at hl 0 rfl) ?_
      refine lv_iload hx hb dX9_step_172 (lv_at hl 2 rfl) ?_
      refine lv_iconst (v := 1) hx hb dX9_step_174 (by decide) ?_
      refine lv_bipush (v := 8) hx hb dX9_step_175 (by decide) ?_
      refine lv_aload_n hx hb dX9_step_177 rfl (lv_at hl 0 rfl) ?_
      refine zx_get (C := RX9) (T := TX9) (N := 35) F hW wu_X9 (by decide) zx_E43 rfl 20 (by decide) wf_X9_109 rfl dX9_step_178 ?_
      refine lv_imul hx hb dX9_step_181 ?_
      refine lv_ishl hx hb dX9_step_182 ?_
      refine lv_iconst (v := 1) hx hb dX9_step_183 (by decide) ?_
      refine lv_isub hx hb dX9_step_184 ?_
      refine lv_iand hx hb dX9_step_185 ?_
      obtain ⟨S9, eS9, h⟩ := g_pin h
      refine zx_putv (C := RX9) (T := TX9) (N := 35) F hW hS wu_X9 tyX9_ok nmX9 (by decide) zx_E43 rfl 21 (by decide) wf_X9_112 rfl (v4 &&& (((1 : Int32) <<< (((8 : Int32) * (S 43 20)) &&& 31)) - (1 : Int32))) rfl rfl (Nat.le_of_ble_eq_true rfl) rfl dX9_step_186 (fun H locs hW hS => ?_)
      have hW : zx_W D a cs S9 H := by rw [eS9]; exact hW
      refine lv_aload_n hx hb dX9_step_189 rfl (lv_at hl 0 rfl) ?_
      refine lv_iload hx hb dX9_step_190 (lv_at hl 7 rfl) ?_
      refine lv_iload hx hb dX9_step_192 (lv_at hl 4 rfl) ?_
      obtain ⟨c10, h⟩ := g_no h
      refine lv_idiv hx hb dX9_step_194 c10 ?_
      refine lv_iload hx hb dX9_step_195 (lv_at hl 5 rfl) ?_
      refine lv_ishl hx hb dX9_step_197 ?_
      refine lv_iload hx hb dX9_step_198 (lv_at hl 7 rfl) ?_
      refine lv_iload hx hb dX9_step_200 (lv_at hl 4 rfl) ?_
      obtain ⟨c11, h⟩ := g_no h
      refine lv_irem hx hb dX9_step_202 c11 ?_
      refine lv_iadd hx hb dX9_step_203 ?_
      refine lv_aload_n hx hb dX9_step_204 rfl (lv_at hl 0 rfl) ?_
      refine zx_get (C := RX9) (T := TX9) (N := 35) F hW wu_X9 (by decide) zx_E43 rfl 6 (by decide) wf_X9_22 rfl dX9_step_205 ?_
      refine lv_sipush (v := 256) hx hb dX9_step_208 (by decide) ?_
      refine lv_iload_n hx hb dX9_step_211 rfl (lv_at hl 1 rfl) ?_
      refine lv_imul hx hb dX9_step_212 ?_
      refine lv_iload hx hb dX9_step_213 (lv_at hl 3 rfl) ?_
      refine lv_iadd hx hb dX9_step_215 ?_
      obtain ⟨c12, h⟩ := g_no h
      refine zx_iald (n := 1792) F hW (by decide) zx_E48 c12 dX9_step_216 ?_
      refine lv_iadd hx hb dX9_step_217 ?_
      obtain ⟨S13, eS13, h⟩ := g_pin h
      refine zx_putv (C := RX9) (T := TX9) (N := 35) F hW hS wu_X9 tyX9_ok nmX9 (by decide) zx_E43 rfl 22 (by decide) wf_X9_115 rfl ((((v10 / v6) <<< (v7 &&& 31)) + (v10 - v10 / v6 * v6)) + (S9 48 (((256 : Int32) * v1) + v5).toNatClampNeg)) rfl rfl (Nat.le_of_ble_eq_true rfl) rfl dX9_step_218 (fun H locs hW hS => ?_)
      have hW : zx_W D a cs S13 H := by rw [eS13]; exact hW
      exact zx_rv F hr hW hS h dX9_step_221
    · have h := g_f c8 h
      refine lv_iload hx hb dX9_step_151 (lv_at hl 7 rfl) ?_
      refine lv_bipush (v := 8) hx hb dX9_step_153 (by decide) ?_
      refine lv_ishr hx hb dX9_step_155 ?_
      obtain ⟨x14, ex14, h⟩ := g_pin h
      refine zx_nm ex14 ?_
      refine lv_istore (lv' := [(10, .int x14), (0, .ref (a 43)), (1, .int v1), (4, .int v4), (5, .int v5), (6, .int v6), (7, .int v7), (8, .long v8)]) hx hb dX9_step_156 hl (by decide) rfl (fun ls hl => ?_)
      refine lv_aload_n hx hb dX9_step_158 rfl (lv_at hl 1 rfl) ?_
      refine lv_dup hx hb dX9_step_159 rfl ?_
      refine zx_get (C := RX9) (T := TX9) (N := 35) F hW wu_X9 (by decide) zx_E43 rfl 20 (by decide) wf_X9_109 rfl dX9_step_160 ?_
      refine lv_iconst (v := 1) hx hb dX9_step_163 (by decide) ?_
      refine lv_iadd hx hb dX9_step_164 ?_
      obtain ⟨S15, eS15, h⟩ := g_pin h
      refine zx_putv (C := RX9) (T := TX9) (N := 35) F hW hS wu_X9 tyX9_ok nmX9 (by decide) zx_E43 rfl 20 (by decide) wf_X9_109 rfl ((S 43 20) + (1 : Int32)) rfl rfl (Nat.le_of_ble_eq_true rfl) rfl dX9_step_165 (fun H locs hW hS => ?_)
      have hW : zx_W D a cs S15 H := by rw [eS15]; exact hW
      refine lv_goto (tgt := 142) hx hb dX9_step_168 (by decide) ?_
      exact ih v1 v4 v5 v6 v7 v8 x14 S15 h _ _ _ hW hS (lv_sub hl [1, 2, 3, 4, 5, 6, 7, 0] rfl)
set_option maxHeartbeats 4000000 in
set_option maxRecDepth 100000 in
theorem k_X9_step_L32 {l : Launch} {D : va_G} {a : Nat → Nat} {cs : zx_C} {p : Program} {e : Env} {s : State} {m : MethodId} {below : List Frame} {meth : Method} {c : Code} {fu : Nat} {p0 : Int32} {p1 : Int32} {p2 : Int32} {p3 : Int32} {p4 : Int32}  (F : zx_F D a cs p m c cX9_step 11 s ([.ref (a 43), .int p0, .int p1, .int p2, .int p3, .int p4] : List Value).toArray RX9 meth) (hr : meth.sig.returnType = none) {r9 : Int32} {S9 : St}    : ∀ (n : Nat) (v1 : Int32) (v3 : Int32) (v4 : Int32) (v5 : Int32) (v6 : Int32) (v7 : Int32) (S : St), f_X9_step_L32 fu p0 p1 p2 p3 p4   n v1 v3 v4 v5 v6 v7 S = some (r9, S9) → ∀ (H : Heap) (locs : List Loc) (ls : Array Slot), zx_W D a cs S H → va_S (zx_A a) s.heap H locs → lv_has ls 11 [(0, .ref (a 43)), (1, .int v1), (3, .int v3), (4, .int v4), (5, .int v5), (6, .int v6), (7, .int v7)] → W p l e ({ frames := 0, cells := 0, slots := 0, locals := 0 }) s m ([.ref (a 43), .int p0, .int p1, .int p2, .int p3, .int p4] : List Value).toArray below meth c H locs 0 0 (MQ below (zx_Qv D a cs S9) ([.ref (a 43), .int p0, .int p1, .int p2, .int p3, .int p4] : List Value).toArray s 0 0 (zx_A a)) (F0 m 32 ls []) := by
  obtain ⟨⟨hx, hb, hml, hown, hts⟩, hlk, hK, hJ, hN⟩ := id F
  intro n
  induction n with
  | zero =>
    intro v1 v3 v4 v5 v6 v7 S h
    exact absurd h (fun q => by cases q)
  | succ n ih =>
    intro v1 v3 v4 v5 v6 v7 S h H locs ls hW hS hl
    rw [f_X9_step_L32_s] at h
    refine lv_iload hx hb dX9_step_32 (lv_at hl 3 rfl) ?_
    refine lv_aload_n hx hb dX9_step_34 rfl (lv_at hl 0 rfl) ?_
    refine zx_get (C := RX9) (T := TX9) (N := 35) F hW wu_X9 (by decide) zx_E43 rfl 20 (by decide) wf_X9_109 rfl dX9_step_35 ?_
    refine lv_ishr hx hb dX9_step_38 ?_
    refine lv_iconst (v := 2) hx hb dX9_step_39 (by decide) ?_
    refine lv_iload hx hb dX9_step_40 (lv_at hl 5 rfl) ?_
    refine lv_imul hx hb dX9_step_42 ?_
    refine lv_icmp_lt (tgt := 59) hx hb dX9_step_43 (by decide) (fun c16 => ?_) (fun c16 => ?_)
    · have h := g_t c16 h
      refine lv_aload_n hx hb dX9_step_59 rfl (lv_at hl 0 rfl) ?_
      refine lv_iload hx hb dX9_step_60 (lv_at hl 3 rfl) ?_
      refine lv_iconst (v := 1) hx hb dX9_step_62 (by decide) ?_
      refine lv_aload_n hx hb dX9_step_63 rfl (lv_at hl 0 rfl) ?_
      refine zx_get (C := RX9) (T := TX9) (N := 35) F hW wu_X9 (by decide) zx_E43 rfl 20 (by decide) wf_X9_109 rfl dX9_step_64 ?_
      refine lv_ishl hx hb dX9_step_67 ?_
      refine lv_iconst (v := 1) hx hb dX9_step_68 (by decide) ?_
      refine lv_isub hx hb dX9_step_69 ?_
      refine lv_iand hx hb dX9_step_70 ?_
      obtain ⟨S17, eS17, h⟩ := g_pin h
      refine zx_putv (C := RX9) (T := TX9) (N := 35) F hW hS wu_X9 tyX9_ok nmX9 (by decide) zx_E43 rfl 21 (by decide) wf_X9_112 rfl (v4 &&& (((1 : Int32) <<< ((S 43 20) &&& 31)) - (1 : Int32))) rfl rfl (Nat.le_of_ble_eq_true rfl) rfl dX9_step_71 (fun H locs hW hS => ?_)
      have hW : zx_W D a cs S17 H := by rw [eS17]; exact hW
      refine lv_iload hx hb dX9_step_74 (lv_at hl 3 rfl) ?_
      refine lv_aload_n hx hb dX9_step_76 rfl (lv_at hl 0 rfl) ?_
      refine zx_get (C := RX9) (T := TX9) (N := 35) F hW wu_X9 (by decide) zx_E43 rfl 20 (by decide) wf_X9_109 rfl dX9_step_77 ?_
      refine lv_ishr hx hb dX9_step_80 ?_
      obtain ⟨x18, ex18, h⟩ := g_pin h
      refine zx_nm ex18 ?_
      refine lv_istore (lv' := [(8, .int x18), (0, .ref (a 43)), (1, .int v1), (3, .int v3), (4, .int v4), (5, .int v5), (6, .int v6), (7, .int v7)]) hx hb dX9_step_81 hl (by decide) rfl (fun ls hl => ?_)
      refine lv_aload_n hx hb dX9_step_83 rfl (lv_at hl 1 rfl) ?_
      refine lv_iconst (v := 1) hx hb dX9_step_84 (by decide) ?_
      refine lv_iload hx hb dX9_step_85 (lv_at hl 7 rfl) ?_
      refine lv_ishl hx hb dX9_step_87 ?_
      refine lv_aload_n hx hb dX9_step_88 rfl (lv_at hl 1 rfl) ?_
      refine zx_get (C := RX9) (T := TX9) (N := 35) F hW wu_X9 (by decide) zx_E43 rfl 10 (by decide) wf_X9_36 rfl dX9_step_89 ?_
      refine lv_sipush (v := 4096) hx hb dX9_step_92 (by decide) ?_
      refine lv_iconst (v := 3) hx hb dX9_step_95 (by decide) ?_
      refine lv_iload_n hx hb dX9_step_96 rfl (lv_at hl 2 rfl) ?_
      refine lv_imul hx hb dX9_step_97 ?_
      refine lv_iload_n hx hb dX9_step_98 rfl (lv_at hl 3 rfl) ?_
      refine lv_iadd hx hb dX9_step_99 ?_
      refine lv_imul hx hb dX9_step_100 ?_
      refine lv_aload_n hx hb dX9_step_101 rfl (lv_at hl 1 rfl) ?_
      refine zx_get (C := RX9) (T := TX9) (N := 35) F hW wu_X9 (by decide) zx_E43 rfl 6 (by decide) wf_X9_22 rfl dX9_step_102 ?_
      refine lv_sipush (v := 256) hx hb dX9_step_105 (by decide) ?_
      refine lv_iload_n hx hb dX9_step_108 rfl (lv_at hl 2 rfl) ?_
      refine lv_imul hx hb dX9_step_109 ?_
      refine lv_iload hx hb dX9_step_110 (lv_at hl 5 rfl) ?_
      refine lv_iadd hx hb dX9_step_112 ?_
      obtain ⟨c19, h⟩ := g_no h
      refine zx_iald (n := 1792) F hW (by decide) zx_E48 c19 dX9_step_113 ?_
      refine lv_iadd hx hb dX9_step_114 ?_
      refine lv_iload hx hb dX9_step_115 (lv_at hl 0 rfl) ?_
      refine lv_iadd hx hb dX9_step_117 ?_
      refine lv_iload hx hb dX9_step_118 (lv_at hl 6 rfl) ?_
      refine lv_isub hx hb dX9_step_120 ?_
      obtain ⟨c20, h⟩ := g_no h
      refine zx_iald (n := 86016) F hW (by decide) zx_E52 c20 dX9_step_121 ?_
      refine lv_iadd hx hb dX9_step_122 ?_
      obtain ⟨S21, eS21, h⟩ := g_pin h
      refine zx_putv (C := RX9) (T := TX9) (N := 35) F hW hS wu_X9 tyX9_ok nmX9 (by decide) zx_E43 rfl 22 (by decide) wf_X9_115 rfl (((1 : Int32) <<< (v7 &&& 31)) + (S17 52 (((((4096 : Int32) * (((3 : Int32) * v1) + v3)) + (S17 48 (((256 : Int32) * v1) + v5).toNatClampNeg)) + x18) - v6).toNatClampNeg)) rfl rfl (Nat.le_of_ble_eq_true rfl) rfl dX9_step_123 (fun H locs hW hS => ?_)
      have hW : zx_W D a cs S21 H := by rw [eS21]; exact hW
      exact zx_rv F hr hW hS h dX9_step_126
    · have h := g_f c16 h
      refine lv_aload_n hx hb dX9_step_46 rfl (lv_at hl 0 rfl) ?_
      refine lv_dup hx hb dX9_step_47 rfl ?_
      refine zx_get (C := RX9) (T := TX9) (N := 35) F hW wu_X9 (by decide) zx_E43 rfl 20 (by decide) wf_X9_109 rfl dX9_step_48 ?_
      refine lv_iconst (v := 1) hx hb dX9_step_51 (by decide) ?_
      refine lv_iadd hx hb dX9_step_52 ?_
      obtain ⟨S22, eS22, h⟩ := g_pin h
      refine zx_putv (C := RX9) (T := TX9) (N := 35) F hW hS wu_X9 tyX9_ok nmX9 (by decide) zx_E43 rfl 20 (by decide) wf_X9_109 rfl ((S 43 20) + (1 : Int32)) rfl rfl (Nat.le_of_ble_eq_true rfl) rfl dX9_step_53 (fun H locs hW hS => ?_)
      have hW : zx_W D a cs S22 H := by rw [eS22]; exact hW
      refine lv_goto (tgt := 32) hx hb dX9_step_56 (by decide) ?_
      exact ih v1 v3 v4 v5 v6 v7 S22 h _ _ _ hW hS (lv_sub hl [0, 1, 2, 3, 4, 5, 6] rfl)
set_option maxHeartbeats 4000000 in
set_option maxRecDepth 100000 in
theorem c_X9_step (l : Launch) (D : va_G) (a : Nat → Nat) (cs : zx_C) (fu : Nat) (p0 : Int32) (p1 : Int32) (p2 : Int32) (p3 : Int32) (p4 : Int32)  (S : St) (r9 : Int32) (S9 : St) (h : f_X9_step fu p0 p1 p2 p3 p4 S = some (r9, S9)) : Met l yX9_step (Cond.code yX9_step cX9_step 11 none :: zx_tb) ({ frames := 0, cells := 0, slots := 0, locals := 0 }) (zx_P D a cs [.ref (a 43), .int p0, .int p1, .int p2, .int p3, .int p4] S) (zx_Qv D a cs S9) 0 0 (zx_A a) := by
  refine zx_met (own := RX9) (by decide) (Nat.le_of_ble_eq_true rfl) rfl ?_
  intro p e s m below meth c ls F hr hW hS hl
  have hl : lv_has ls 11 [(0, .ref (a 43)), (1, .int p0), (2, .int p1), (3, .int p2), (4, .int p3), (5, .int p4)] := hl
  obtain ⟨⟨hx, hb, hml, hown, hts⟩, hlk, hK, hJ, hN⟩ := id F
  unfold f_X9_step at h
  refine lv_aload_n hx hb dX9_step_0 rfl (lv_at hl 0 rfl) ?_
  refine zx_get (C := RX9) (T := TX9) (N := 35) F hW wu_X9 (by decide) zx_E43 rfl 5 (by decide) wf_X9_19 rfl dX9_step_1 ?_
  refine lv_sipush (v := 256) hx hb dX9_step_4 (by decide) ?_
  refine lv_iload_n hx hb dX9_step_7 rfl (lv_at hl 1 rfl) ?_
  refine lv_imul hx hb dX9_step_8 ?_
  refine lv_iload hx hb dX9_step_9 (lv_at hl 5 rfl) ?_
  refine lv_iadd hx hb dX9_step_11 ?_
  obtain ⟨c1, h⟩ := g_no h
  refine zx_iald (n := 1792) F hW (by decide) zx_E47 c1 dX9_step_12 ?_
  obtain ⟨x2, ex2, h⟩ := g_pin h
  refine zx_nm ex2 ?_
  refine lv_istore (lv' := [(6, .int x2), (0, .ref (a 43)), (1, .int p0), (2, .int p1), (3, .int p2), (4, .int p3), (5, .int p4)]) hx hb dX9_step_13 hl (by decide) rfl (fun ls hl => ?_)
  refine lv_aload_n hx hb dX9_step_15 rfl (lv_at hl 1 rfl) ?_
  refine zx_get (C := RX9) (T := TX9) (N := 35) F hW wu_X9 (by decide) zx_E43 rfl 4 (by decide) wf_X9_16 rfl dX9_step_16 ?_
  refine lv_iload_n hx hb dX9_step_19 rfl (lv_at hl 2 rfl) ?_
  obtain ⟨c3, h⟩ := g_no h
  refine zx_iald (n := 7) F hW (by decide) zx_E46 c3 dX9_step_20 ?_
  obtain ⟨x4, ex4, h⟩ := g_pin h
  refine zx_nm ex4 ?_
  refine lv_istore (lv' := [(7, .int x4), (6, .int x2), (0, .ref (a 43)), (1, .int p0), (2, .int p1), (3, .int p2), (4, .int p3), (5, .int p4)]) hx hb dX9_step_21 hl (by decide) rfl (fun ls hl => ?_)
  refine lv_aload_n hx hb dX9_step_23 rfl (lv_at hl 2 rfl) ?_
  refine lv_iconst (v := 0) hx hb dX9_step_24 (by decide) ?_
  obtain ⟨S5, eS5, h⟩ := g_pin h
  refine zx_putv (C := RX9) (T := TX9) (N := 35) F hW hS wu_X9 tyX9_ok nmX9 (by decide) zx_E43 rfl 20 (by decide) wf_X9_109 rfl (0 : Int32) rfl rfl (Nat.le_of_ble_eq_true rfl) rfl dX9_step_25 (fun H locs hW hS => ?_)
  have hW : zx_W D a cs S5 H := by rw [eS5]; exact hW
  refine lv_iload_n hx hb dX9_step_28 rfl (lv_at hl 4 rfl) ?_
  refine lv_if_ne (tgt := 127) hx hb dX9_step_29 (by decide) (fun c6 => ?_) (fun c6 => ?_)
  · have h := g_f c6 h
    refine lv_iload hx hb dX9_step_127 (lv_at hl 1 rfl) ?_
    refine lv_i2l hx hb dX9_step_129 rfl ?_
    refine lv_bipush (v := 31) hx hb dX9_step_130 (by decide) ?_
    refine lv_iload hx hb dX9_step_132 (lv_at hl 0 rfl) ?_
    refine lv_isub hx hb dX9_step_134 ?_
    refine lv_lshl hx hb dX9_step_135 rfl ?_
    obtain ⟨x7, ex7, h⟩ := g_pin h
    refine zx_nml ex7 ?_
    refine lv_lstore (lv' := [(8, .long x7), (7, .int x4), (6, .int x2), (0, .ref (a 43)), (1, .int p0), (2, .int p1), (3, .int p2), (4, .int p3), (5, .int p4)]) hx hb dX9_step_136 hl (by decide) rfl (fun ls hl => ?_)
    refine lv_iload hx hb dX9_step_138 (lv_at hl 7 rfl) ?_
    refine lv_istore (lv' := [(10, .int p3), (8, .long x7), (7, .int x4), (6, .int x2), (0, .ref (a 43)), (1, .int p0), (2, .int p1), (3, .int p2), (4, .int p3), (5, .int p4)]) hx hb dX9_step_140 hl (by decide) rfl (fun ls hl => ?_)
    exact k_X9_step_L142  F hr   fu p0 p3 p4 x2 x4 x7 p3 S5 h _ _ _ hW hS (lv_sub hl [4, 5, 8, 9, 3, 2, 1, 0] rfl)
  · have h := g_t c6 h
    exact k_X9_step_L32  F hr   fu p0 p2 p3 p4 x2 x4 S5 h _ _ _ hW hS (lv_sub hl [2, 3, 5, 6, 7, 1, 0] rfl)
theorem Y_X9_code : zx_Y yX9_code cX9_code 6 (some (.int)) 5 := ⟨wc_X9_code, wn_X9, by decide, by decide, by decide +kernel⟩
set_option maxHeartbeats 4000000 in
set_option maxRecDepth 100000 in
theorem c_X9_code (l : Launch) (D : va_G) (a : Nat → Nat) (cs : zx_C) (fu : Nat) (p0 : Int32) (p1 : Int32) (p2 : Int32) (p3 : Int32) (p4 : Int32)  (S : St) (r9 : Int32) (S9 : St) (h : f_X9_code fu p0 p1 p2 p3 p4 S = some (r9, S9)) : Met l yX9_code (Cond.code yX9_code cX9_code 6 (some (.int)) :: zx_tb) ({ frames := 5, cells := 0, slots := 0, locals := 127 }) (zx_P D a cs [.ref (a 43), .int p0, .int p1, .int p2, .int p3, .int p4] S) (zx_Qi D a cs r9 S9) 0 0 (zx_A a) := by
  refine zx_met (own := RX9) (by decide) (Nat.le_of_ble_eq_true rfl) rfl ?_
  intro p e s m below meth c ls F hr hW hS hl
  have hl : lv_has ls 6 [(0, .ref (a 43)), (1, .int p0), (2, .int p1), (3, .int p2), (4, .int p3), (5, .int p4)] := hl
  obtain ⟨⟨hx, hb, hml, hown, hts⟩, hlk, hK, hJ, hN⟩ := id F
  unfold f_X9_code at h
  refine lv_aload_n hx hb dX9_code_0 rfl (lv_at hl 0 rfl) ?_
  refine lv_iload_n hx hb dX9_code_1 rfl (lv_at hl 1 rfl) ?_
  refine lv_iload_n hx hb dX9_code_2 rfl (lv_at hl 2 rfl) ?_
  refine lv_iload_n hx hb dX9_code_3 rfl (lv_at hl 3 rfl) ?_
  refine lv_iload hx hb dX9_code_4 (lv_at hl 4 rfl) ?_
  obtain ⟨r1, S2, h3, h⟩ := g_bd h
  refine zx_ci (zx_runV (q := (RX9, TX9, 35)) (As := [.int p0, .int p1, .int p2, .int p3]) (rest := []) F hW (c_X9_isAsked l D a cs fu p0 p1 p2 p3  S r1 S2 h3) Y_X9_isAsked wi_X9_isAsked ws_X9_isAsked wm_X9_126 ⟨rfl, rfl, Nat.le_of_ble_eq_true rfl, Nat.le_of_ble_eq_true rfl, Nat.le_of_ble_eq_true rfl, Nat.le_of_ble_eq_true rfl⟩ (by decide) zx_E43 rfl rfl hl.1 rfl (Nat.le_of_ble_eq_true rfl) dX9_code_6) hS (fun H locs hW hS => ?_)
  refine lv_if_eq (tgt := 41) hx hb dX9_code_9 (by decide) (fun c4 => ?_) (fun c4 => ?_)
  · have h := g_t c4 h
    refine lv_iconst (v := -1) hx hb dX9_code_41 (by decide) ?_
    exact zx_ri F hr hW hS h dX9_code_42
  · have h := g_f c4 h
    refine lv_iload hx hb dX9_code_12 (lv_at hl 5 rfl) ?_
    refine lv_if_lt (tgt := 41) hx hb dX9_code_14 (by decide) (fun c5 => ?_) (fun c5 => ?_)
    · have h := g_t c5 h
      refine lv_iconst (v := -1) hx hb dX9_code_41 (by decide) ?_
      exact zx_ri F hr hW hS h dX9_code_42
    · have h := g_f c5 h
      refine lv_iload hx hb dX9_code_17 (lv_at hl 5 rfl) ?_
      refine lv_sipush (v := 255) hx hb dX9_code_19 (by decide) ?_
      refine lv_icmp_gt (tgt := 41) hx hb dX9_code_22 (by decide) (fun c6 => ?_) (fun c6 => ?_)
      · have h := g_t c6 h
        refine lv_iconst (v := -1) hx hb dX9_code_41 (by decide) ?_
        exact zx_ri F hr hW hS h dX9_code_42
      · have h := g_f c6 h
        refine lv_aload_n hx hb dX9_code_25 rfl (lv_at hl 0 rfl) ?_
        refine zx_get (C := RX9) (T := TX9) (N := 35) F hW wu_X9 (by decide) zx_E43 rfl 5 (by decide) wf_X9_19 rfl dX9_code_26 ?_
        refine lv_sipush (v := 256) hx hb dX9_code_29 (by decide) ?_
        refine lv_iload_n hx hb dX9_code_32 rfl (lv_at hl 1 rfl) ?_
        refine lv_imul hx hb dX9_code_33 ?_
        refine lv_iload hx hb dX9_code_34 (lv_at hl 5 rfl) ?_
        refine lv_iadd hx hb dX9_code_36 ?_
        obtain ⟨c7, h⟩ := g_no h
        refine zx_iald (n := 1792) F hW (by decide) zx_E47 c7 dX9_code_37 ?_
        refine lv_if_ne (tgt := 43) hx hb dX9_code_38 (by decide) (fun c8 => ?_) (fun c8 => ?_)
        · have h := g_f c8 h
          refine lv_aload_n hx hb dX9_code_43 rfl (lv_at hl 0 rfl) ?_
          refine lv_iload_n hx hb dX9_code_44 rfl (lv_at hl 1 rfl) ?_
          refine lv_iload_n hx hb dX9_code_45 rfl (lv_at hl 2 rfl) ?_
          refine lv_iload_n hx hb dX9_code_46 rfl (lv_at hl 3 rfl) ?_
          refine lv_iload hx hb dX9_code_47 (lv_at hl 4 rfl) ?_
          refine lv_iload hx hb dX9_code_49 (lv_at hl 5 rfl) ?_
          obtain ⟨r9, S10, h11, h⟩ := g_bd h
          refine zx_cv (zx_runV (q := (RX9, TX9, 35)) (As := [.int p0, .int p1, .int p2, .int p3, .int p4]) (rest := []) F hW (c_X9_step l D a cs fu p0 p1 p2 p3 p4  S2 r9 S10 h11) Y_X9_step wi_X9_step ws_X9_step wm_X9_130 ⟨rfl, rfl, Nat.le_of_ble_eq_true rfl, Nat.le_of_ble_eq_true rfl, Nat.le_of_ble_eq_true rfl, Nat.le_of_ble_eq_true rfl⟩ (by decide) zx_E43 rfl rfl hl.1 rfl (Nat.le_of_ble_eq_true rfl) dX9_code_51) hS (fun H locs hW hS => ?_)
          refine lv_aload_n hx hb dX9_code_54 rfl (lv_at hl 0 rfl) ?_
          refine lv_aload_n hx hb dX9_code_55 rfl (lv_at hl 0 rfl) ?_
          refine zx_get (C := RX9) (T := TX9) (N := 35) F hW wu_X9 (by decide) zx_E43 rfl 20 (by decide) wf_X9_109 rfl dX9_code_56 ?_
          obtain ⟨S12, eS12, h⟩ := g_pin h
          refine zx_putv (C := RX9) (T := TX9) (N := 35) F hW hS wu_X9 tyX9_ok nmX9 (by decide) zx_E43 rfl 18 (by decide) wf_X9_134 rfl (S10 43 20) rfl rfl (Nat.le_of_ble_eq_true rfl) rfl dX9_code_59 (fun H locs hW hS => ?_)
          have hW : zx_W D a cs S12 H := by rw [eS12]; exact hW
          refine lv_aload_n hx hb dX9_code_62 rfl (lv_at hl 0 rfl) ?_
          refine lv_aload_n hx hb dX9_code_63 rfl (lv_at hl 0 rfl) ?_
          refine zx_get (C := RX9) (T := TX9) (N := 35) F hW wu_X9 (by decide) zx_E43 rfl 21 (by decide) wf_X9_112 rfl dX9_code_64 ?_
          obtain ⟨S13, eS13, h⟩ := g_pin h
          refine zx_putv (C := RX9) (T := TX9) (N := 35) F hW hS wu_X9 tyX9_ok nmX9 (by decide) zx_E43 rfl 19 (by decide) wf_X9_137 rfl (S12 43 21) rfl rfl (Nat.le_of_ble_eq_true rfl) rfl dX9_code_67 (fun H locs hW hS => ?_)
          have hW : zx_W D a cs S13 H := by rw [eS13]; exact hW
          refine lv_aload_n hx hb dX9_code_70 rfl (lv_at hl 0 rfl) ?_
          refine zx_get (C := RX9) (T := TX9) (N := 35) F hW wu_X9 (by decide) zx_E43 rfl 22 (by decide) wf_X9_115 rfl dX9_code_71 ?_
          exact zx_ri F hr hW hS h dX9_code_74
        · have h := g_t c8 h
          refine lv_iconst (v := -1) hx hb dX9_code_41 (by decide) ?_
          exact zx_ri F hr hW hS h dX9_code_42
theorem Y_X9_end : zx_Y yX9_end cX9_end 2 (some (.int)) 1 := ⟨wc_X9_end, wn_X9, by decide, by decide, by decide +kernel⟩
set_option maxHeartbeats 4000000 in
set_option maxRecDepth 100000 in
theorem c_X9_end (l : Launch) (D : va_G) (a : Nat → Nat) (cs : zx_C) (p0 : Int32)  (S : St) (r9 : Int32) (S9 : St) (h : f_X9_end p0 S = some (r9, S9)) : Met l yX9_end (Cond.code yX9_end cX9_end 2 (some (.int)) :: zx_tb) ({ frames := 0, cells := 0, slots := 0, locals := 0 }) (zx_P D a cs [.ref (a 43), .int p0] S) (zx_Qi D a cs r9 S9) 0 0 (zx_A a) := by
  refine zx_met (own := RX9) (by decide) (Nat.le_of_ble_eq_true rfl) rfl ?_
  intro p e s m below meth c ls F hr hW hS hl
  have hl : lv_has ls 2 [(0, .ref (a 43)), (1, .int p0)] := hl
  obtain ⟨⟨hx, hb, hml, hown, hts⟩, hlk, hK, hJ, hN⟩ := id F
  unfold f_X9_end at h
  refine lv_iload_n hx hb dX9_end_0 rfl (lv_at hl 1 rfl) ?_
  refine lv_if_lt (tgt := 12) hx hb dX9_end_1 (by decide) (fun c1 => ?_) (fun c1 => ?_)
  · have h := g_t c1 h
    refine lv_iconst (v := -1) hx hb dX9_end_12 (by decide) ?_
    exact zx_ri F hr hW hS h dX9_end_13
  · have h := g_f c1 h
    refine lv_iload_n hx hb dX9_end_4 rfl (lv_at hl 1 rfl) ?_
    refine lv_aload_n hx hb dX9_end_5 rfl (lv_at hl 0 rfl) ?_
    refine zx_get (C := RX9) (T := TX9) (N := 35) F hW wu_X9 (by decide) zx_E43 rfl 1 (by decide) wf_X9_70 rfl dX9_end_6 ?_
    refine lv_icmp_le (tgt := 14) hx hb dX9_end_9 (by decide) (fun c2 => ?_) (fun c2 => ?_)
    · have h := g_t c2 h
      refine lv_aload_n hx hb dX9_end_14 rfl (lv_at hl 0 rfl) ?_
      refine lv_iload_n hx hb dX9_end_15 rfl (lv_at hl 1 rfl) ?_
      obtain ⟨S3, eS3, h⟩ := g_pin h
      refine zx_putv (C := RX9) (T := TX9) (N := 35) F hW hS wu_X9 tyX9_ok nmX9 (by decide) zx_E43 rfl 1 (by decide) wf_X9_70 rfl p0 rfl rfl (Nat.le_of_ble_eq_true rfl) rfl dX9_end_16 (fun H locs hW hS => ?_)
      have hW : zx_W D a cs S3 H := by rw [eS3]; exact hW
      refine lv_iload_n hx hb dX9_end_19 rfl (lv_at hl 1 rfl) ?_
      exact zx_ri F hr hW hS h dX9_end_20
    · have h := g_f c2 h
      refine lv_iconst (v := -1) hx hb dX9_end_12 (by decide) ?_
      exact zx_ri F hr hW hS h dX9_end_13
theorem Y_X9_fails : zx_Y yX9_fails cX9_fails 3 (some (.boolean)) 2 := ⟨wc_X9_fails, wn_X9, by decide, by decide, by decide +kernel⟩
set_option maxHeartbeats 4000000 in
set_option maxRecDepth 100000 in
theorem c_X9_fails (l : Launch) (D : va_G) (a : Nat → Nat) (cs : zx_C) (p0 : Int32) (p1 : Int32)  (S : St) (r9 : Int32) (S9 : St) (h : f_X9_fails p0 p1 S = some (r9, S9)) : Met l yX9_fails (Cond.code yX9_fails cX9_fails 3 (some (.boolean)) :: zx_tb) ({ frames := 0, cells := 0, slots := 0, locals := 0 }) (zx_P D a cs [.ref (a 43), .int p0, .int p1] S) (zx_Qi D a cs r9 S9) 0 0 (zx_A a) := by
  refine zx_met (own := RX9) (by decide) (Nat.le_of_ble_eq_true rfl) rfl ?_
  intro p e s m below meth c ls F hr hW hS hl
  have hl : lv_has ls 3 [(0, .ref (a 43)), (1, .int p0), (2, .int p1)] := hl
  obtain ⟨⟨hx, hb, hml, hown, hts⟩, hlk, hK, hJ, hN⟩ := id F
  unfold f_X9_fails at h
  refine lv_aload_n hx hb dX9_fails_0 rfl (lv_at hl 0 rfl) ?_
  refine lv_iload_n hx hb dX9_fails_1 rfl (lv_at hl 1 rfl) ?_
  obtain ⟨S1, eS1, h⟩ := g_pin h
  refine zx_putv (C := RX9) (T := TX9) (N := 35) F hW hS wu_X9 tyX9_ok nmX9 (by decide) zx_E43 rfl 16 (by decide) wf_X9_170 rfl p0 rfl rfl (Nat.le_of_ble_eq_true rfl) rfl dX9_fails_2 (fun H locs hW hS => ?_)
  have hW : zx_W D a cs S1 H := by rw [eS1]; exact hW
  refine lv_aload_n hx hb dX9_fails_5 rfl (lv_at hl 0 rfl) ?_
  refine lv_iload_n hx hb dX9_fails_6 rfl (lv_at hl 2 rfl) ?_
  obtain ⟨S2, eS2, h⟩ := g_pin h
  refine zx_putv (C := RX9) (T := TX9) (N := 35) F hW hS wu_X9 tyX9_ok nmX9 (by decide) zx_E43 rfl 17 (by decide) wf_X9_51 rfl p1 rfl rfl (Nat.le_of_ble_eq_true rfl) rfl dX9_fails_7 (fun H locs hW hS => ?_)
  have hW : zx_W D a cs S2 H := by rw [eS2]; exact hW
  refine lv_iconst (v := 0) hx hb dX9_fails_10 (by decide) ?_
  exact zx_rz F hr (by decide) hW hS h dX9_fails_11
theorem Y_X9_fault : zx_Y yX9_fault cX9_fault 2 (some (.int)) 1 := ⟨wc_X9_fault, wn_X9, by decide, by decide, by decide +kernel⟩
set_option maxHeartbeats 4000000 in
set_option maxRecDepth 100000 in
theorem c_X9_fault (l : Launch) (D : va_G) (a : Nat → Nat) (cs : zx_C) (p0 : Int32)  (S : St) (r9 : Int32) (S9 : St) (h : f_X9_fault p0 S = some (r9, S9)) : Met l yX9_fault (Cond.code yX9_fault cX9_fault 2 (some (.int)) :: zx_tb) ({ frames := 0, cells := 0, slots := 0, locals := 0 }) (zx_P D a cs [.ref (a 43), .int p0] S) (zx_Qi D a cs r9 S9) 0 0 (zx_A a) := by
  refine zx_met (own := RX9) (by decide) (Nat.le_of_ble_eq_true rfl) rfl ?_
  intro p e s m below meth c ls F hr hW hS hl
  have hl : lv_has ls 2 [(0, .ref (a 43)), (1, .int p0)] := hl
  obtain ⟨⟨hx, hb, hml, hown, hts⟩, hlk, hK, hJ, hN⟩ := id F
  unfold f_X9_fault at h
  refine lv_iload_n hx hb dX9_fault_0 rfl (lv_at hl 1 rfl) ?_
  refine lv_if_ne (tgt := 11) hx hb dX9_fault_1 (by decide) (fun c1 => ?_) (fun c1 => ?_)
  · have h := g_f c1 h
    refine lv_iload_n hx hb dX9_fault_11 rfl (lv_at hl 1 rfl) ?_
    refine lv_iconst (v := 1) hx hb dX9_fault_12 (by decide) ?_
    refine lv_icmp_ne (tgt := 23) hx hb dX9_fault_13 (by decide) (fun c2 => ?_) (fun c2 => ?_)
    · have h := g_f c2 h
      refine lv_iconst (v := -1) hx hb dX9_fault_23 (by decide) ?_
      exact zx_ri F hr hW hS h dX9_fault_24
    · have h := g_t c2 h
      refine lv_aload_n hx hb dX9_fault_16 rfl (lv_at hl 0 rfl) ?_
      refine zx_get (C := RX9) (T := TX9) (N := 35) F hW wu_X9 (by decide) zx_E43 rfl 17 (by decide) wf_X9_51 rfl dX9_fault_17 ?_
      refine lv_goto (tgt := 24) hx hb dX9_fault_20 (by decide) ?_
      exact zx_ri F hr hW hS h dX9_fault_24
  · have h := g_t c1 h
    refine lv_aload_n hx hb dX9_fault_4 rfl (lv_at hl 0 rfl) ?_
    refine zx_get (C := RX9) (T := TX9) (N := 35) F hW wu_X9 (by decide) zx_E43 rfl 16 (by decide) wf_X9_170 rfl dX9_fault_5 ?_
    refine lv_goto (tgt := 24) hx hb dX9_fault_8 (by decide) ?_
    exact zx_ri F hr hW hS h dX9_fault_24
theorem Y_X9_feed : zx_Y yX9_feed cX9_feed 8 (some (.int)) 5 := ⟨wc_X9_feed, wn_X9, by decide, by decide, by decide +kernel⟩
set_option maxHeartbeats 4000000 in
set_option maxRecDepth 100000 in
theorem k_X9_feed_L71 {l : Launch} {D : va_G} {a : Nat → Nat} {cs : zx_C} {p : Program} {e : Env} {s : State} {m : MethodId} {below : List Frame} {meth : Method} {c : Code} {fu : Nat} {p0 : Int32} {p1 : Int32} {p2 : Int32} {p3 : Int32} {p4 : Int32}  (F : zx_F D a cs p m c cX9_feed 8 s ([.ref (a 43), .int p0, .int p1, .int p2, .int p3, .int p4] : List Value).toArray RX9 meth) (hr : meth.sig.returnType = (some (.int))) {r9 : Int32} {S9 : St} {K18 : Int32 → Int32 → Int32 → Int32 → Int32 → Int32 → St → Option (Int32 × St)} (hK18 : ∀ (v1 : Int32) (v2 : Int32) (v3 : Int32) (v4 : Int32) (v5 : Int32) (v6 : Int32) (S : St), K18 v1 v2 v3 v4 v5 v6 S = some (r9, S9) → ∀ (H : Heap) (locs : List Loc) (ls : Array Slot), zx_W D a cs S H → va_S (zx_A a) s.heap H locs → lv_has ls 8 [(0, .ref (a 43)), (1, .int v1), (2, .int v2), (3, .int v3), (4, .int v4), (5, .int v5), (6, .int v6)] → W p l e ({ frames := 0, cells := 0, slots := 0, locals := 0 }) s m ([.ref (a 43), .int p0, .int p1, .int p2, .int p3, .int p4] : List Value).toArray below meth c H locs 0 0 (MQ below (zx_Qi D a cs r9 S9) ([.ref (a 43), .int p0, .int p1, .int p2, .int p3, .int p4] : List Value).toArray s 0 0 (zx_A a)) (F0 m 18 ls []))  (v1 : Int32) (v2 : Int32) (v3 : Int32) (v4 : Int32) (v5 : Int32) (v6 : Int32) (t0 : Int32) (S : St) (h : f_X9_feed_L71 fu p0 p1 p2 p3 p4 K18  v1 v2 v3 v4 v5 v6 t0 S = some (r9, S9)) (H : Heap) (locs : List Loc) (ls : Array Slot) (hW : zx_W D a cs S H) (hS : va_S (zx_A a) s.heap H locs) (hl : lv_has ls 8 [(0, .ref (a 43)), (1, .int v1), (2, .int v2), (3, .int v3), (4, .int v4), (5, .int v5), (6, .int v6)]) : W p l e ({ frames := 0, cells := 0, slots := 0, locals := 0 }) s m ([.ref (a 43), .int p0, .int p1, .int p2, .int p3, .int p4] : List Value).toArray below meth c H locs 0 0 (MQ below (zx_Qi D a cs r9 S9) ([.ref (a 43), .int p0, .int p1, .int p2, .int p3, .int p4] : List Value).toArray s 0 0 (zx_A a)) (F0 m 71 ls [.int t0]) := by
  obtain ⟨⟨hx, hb, hml, hown, hts⟩, hlk, hK, hJ, hN⟩ := id F
  unfold f_X9_feed_L71 at h
  refine lv_istore (lv' := [(7, .int t0), (0, .ref (a 43)), (1, .int v1), (2, .int v2), (3, .int v3), (4, .int v4), (5, .int v5), (6, .int v6)]) hx hb dX9_feed_71 hl (by decide) rfl (fun ls hl => ?_)
  refine lv_aload_n hx hb dX9_feed_73 rfl (lv_at hl 1 rfl) ?_
  refine zx_get (C := RX9) (T := TX9) (N := 35) F hW wu_X9 (by decide) zx_E43 rfl 0 (by decide) wf_X9_7 rfl dX9_feed_74 ?_
  refine lv_aload_n hx hb dX9_feed_77 rfl (lv_at hl 1 rfl) ?_
  refine zx_get (C := RX9) (T := TX9) (N := 35) F hW wu_X9 (by decide) zx_E43 rfl 1 (by decide) wf_X9_70 rfl dX9_feed_78 ?_
  refine lv_iload hx hb dX9_feed_81 (lv_at hl 7 rfl) ?_
  refine lv_iadd hx hb dX9_feed_83 ?_
  refine lv_iload hx hb dX9_feed_84 (lv_at hl 0 rfl) ?_
  refine lv_bipush (v := 24) hx hb dX9_feed_86 (by decide) ?_
  refine lv_bipush (v := 8) hx hb dX9_feed_88 (by decide) ?_
  refine lv_iload hx hb dX9_feed_90 (lv_at hl 7 rfl) ?_
  refine lv_iconst (v := 4) hx hb dX9_feed_92 (by decide) ?_
  refine lv_irem hx hb dX9_feed_93 (by decide) ?_
  refine lv_imul hx hb dX9_feed_94 ?_
  refine lv_isub hx hb dX9_feed_95 ?_
  refine lv_ishr hx hb dX9_feed_96 ?_
  refine lv_sipush (v := 255) hx hb dX9_feed_97 (by decide) ?_
  refine lv_iand hx hb dX9_feed_100 ?_
  obtain ⟨c9, h⟩ := g_no h
  obtain ⟨S8, eS8, h⟩ := g_pin h
  refine zx_iast (n := 4000) F hW hS (by decide) (fun f => zx_E44) c9 dX9_feed_101 (fun H locs hW hS => ?_)
  have hW : zx_W D a cs S8 H := by rw [eS8]; exact hW
  obtain ⟨x10, ex10, h⟩ := g_pin h
  refine lv_iinc (v := x10) (lv' := [(6, .int x10), (7, .int t0), (0, .ref (a 43)), (1, .int v1), (2, .int v2), (3, .int v3), (4, .int v4), (5, .int v5)]) hx hb dX9_feed_102 hl (k := 7) rfl (by rw [ex10]; rfl) (by decide) rfl (fun ls hl => ?_)
  refine lv_goto (tgt := 18) hx hb dX9_feed_105 (by decide) ?_
  exact hK18 v1 v2 v3 v4 v5 x10 S8 h _ _ _ hW hS (lv_sub hl [2, 3, 4, 5, 6, 7, 0] rfl)
set_option maxHeartbeats 4000000 in
set_option maxRecDepth 100000 in
theorem k_X9_feed_L18 {l : Launch} {D : va_G} {a : Nat → Nat} {cs : zx_C} {p : Program} {e : Env} {s : State} {m : MethodId} {below : List Frame} {meth : Method} {c : Code} {fu : Nat} {p0 : Int32} {p1 : Int32} {p2 : Int32} {p3 : Int32} {p4 : Int32}  (F : zx_F D a cs p m c cX9_feed 8 s ([.ref (a 43), .int p0, .int p1, .int p2, .int p3, .int p4] : List Value).toArray RX9 meth) (hr : meth.sig.returnType = (some (.int))) {r9 : Int32} {S9 : St}    : ∀ (n : Nat) (v1 : Int32) (v2 : Int32) (v3 : Int32) (v4 : Int32) (v5 : Int32) (v6 : Int32) (S : St), f_X9_feed_L18 fu p0 p1 p2 p3 p4   n v1 v2 v3 v4 v5 v6 S = some (r9, S9) → ∀ (H : Heap) (locs : List Loc) (ls : Array Slot), zx_W D a cs S H → va_S (zx_A a) s.heap H locs → lv_has ls 8 [(0, .ref (a 43)), (1, .int v1), (2, .int v2), (3, .int v3), (4, .int v4), (5, .int v5), (6, .int v6)] → W p l e ({ frames := 0, cells := 0, slots := 0, locals := 0 }) s m ([.ref (a 43), .int p0, .int p1, .int p2, .int p3, .int p4] : List Value).toArray below meth c H locs 0 0 (MQ below (zx_Qi D a cs r9 S9) ([.ref (a 43), .int p0, .int p1, .int p2, .int p3, .int p4] : List Value).toArray s 0 0 (zx_A a)) (F0 m 18 ls []) := by
  obtain ⟨⟨hx, hb, hml, hown, hts⟩, hlk, hK, hJ, hN⟩ := id F
  intro n
  induction n with
  | zero =>
    intro v1 v2 v3 v4 v5 v6 S h
    exact absurd h (fun q => by cases q)
  | succ n ih =>
    intro v1 v2 v3 v4 v5 v6 S h H locs ls hW hS hl
    rw [f_X9_feed_L18_s] at h
    refine lv_iload hx hb dX9_feed_18 (lv_at hl 6 rfl) ?_
    refine lv_bipush (v := 20) hx hb dX9_feed_20 (by decide) ?_
    refine lv_icmp_ge (tgt := 108) hx hb dX9_feed_22 (by decide) (fun c2 => ?_) (fun c2 => ?_)
    · have h := g_t c2 h
      refine lv_aload_n hx hb dX9_feed_108 rfl (lv_at hl 0 rfl) ?_
      refine lv_dup hx hb dX9_feed_109 rfl ?_
      refine zx_get (C := RX9) (T := TX9) (N := 35) F hW wu_X9 (by decide) zx_E43 rfl 1 (by decide) wf_X9_70 rfl dX9_feed_110 ?_
      refine lv_bipush (v := 20) hx hb dX9_feed_113 (by decide) ?_
      refine lv_iadd hx hb dX9_feed_115 ?_
      obtain ⟨S3, eS3, h⟩ := g_pin h
      refine zx_putv (C := RX9) (T := TX9) (N := 35) F hW hS wu_X9 tyX9_ok nmX9 (by decide) zx_E43 rfl 1 (by decide) wf_X9_70 rfl ((S 43 1) + (20 : Int32)) rfl rfl (Nat.le_of_ble_eq_true rfl) rfl dX9_feed_116 (fun H locs hW hS => ?_)
      have hW : zx_W D a cs S3 H := by rw [eS3]; exact hW
      refine lv_aload_n hx hb dX9_feed_119 rfl (lv_at hl 0 rfl) ?_
      refine zx_get (C := RX9) (T := TX9) (N := 35) F hW wu_X9 (by decide) zx_E43 rfl 1 (by decide) wf_X9_70 rfl dX9_feed_120 ?_
      exact zx_ri F hr hW hS h dX9_feed_123
    · have h := g_f c2 h
      refine lv_iload hx hb dX9_feed_25 (lv_at hl 6 rfl) ?_
      refine lv_iconst (v := 4) hx hb dX9_feed_27 (by decide) ?_
      refine lv_icmp_ge (tgt := 35) hx hb dX9_feed_28 (by decide) (fun c4 => ?_) (fun c4 => ?_)
      · have h := g_t c4 h
        refine lv_iload hx hb dX9_feed_35 (lv_at hl 6 rfl) ?_
        refine lv_bipush (v := 8) hx hb dX9_feed_37 (by decide) ?_
        refine lv_icmp_ge (tgt := 46) hx hb dX9_feed_39 (by decide) (fun c5 => ?_) (fun c5 => ?_)
        · have h := g_t c5 h
          refine lv_iload hx hb dX9_feed_46 (lv_at hl 6 rfl) ?_
          refine lv_bipush (v := 12) hx hb dX9_feed_48 (by decide) ?_
          refine lv_icmp_ge (tgt := 57) hx hb dX9_feed_50 (by decide) (fun c6 => ?_) (fun c6 => ?_)
          · have h := g_t c6 h
            refine lv_iload hx hb dX9_feed_57 (lv_at hl 6 rfl) ?_
            refine lv_bipush (v := 16) hx hb dX9_feed_59 (by decide) ?_
            refine lv_icmp_ge (tgt := 69) hx hb dX9_feed_61 (by decide) (fun c7 => ?_) (fun c7 => ?_)
            · have h := g_t c7 h
              refine lv_iload hx hb dX9_feed_69 (lv_at hl 5 rfl) ?_
              exact k_X9_feed_L71  F hr ih  v1 v2 v3 v4 v5 v6 v5 S h _ _ _ hW hS (lv_sub hl [0, 1, 2, 3, 4, 5, 6] rfl)
            · have h := g_f c7 h
              refine lv_iload hx hb dX9_feed_64 (lv_at hl 4 rfl) ?_
              refine lv_goto (tgt := 71) hx hb dX9_feed_66 (by decide) ?_
              exact k_X9_feed_L71  F hr ih  v1 v2 v3 v4 v5 v6 v4 S h _ _ _ hW hS (lv_sub hl [0, 1, 2, 3, 4, 5, 6] rfl)
          · have h := g_f c6 h
            refine lv_iload_n hx hb dX9_feed_53 rfl (lv_at hl 3 rfl) ?_
            refine lv_goto (tgt := 71) hx hb dX9_feed_54 (by decide) ?_
            exact k_X9_feed_L71  F hr ih  v1 v2 v3 v4 v5 v6 v3 S h _ _ _ hW hS (lv_sub hl [0, 1, 2, 3, 4, 5, 6] rfl)
        · have h := g_f c5 h
          refine lv_iload_n hx hb dX9_feed_42 rfl (lv_at hl 2 rfl) ?_
          refine lv_goto (tgt := 71) hx hb dX9_feed_43 (by decide) ?_
          exact k_X9_feed_L71  F hr ih  v1 v2 v3 v4 v5 v6 v2 S h _ _ _ hW hS (lv_sub hl [0, 1, 2, 3, 4, 5, 6] rfl)
      · have h := g_f c4 h
        refine lv_iload_n hx hb dX9_feed_31 rfl (lv_at hl 1 rfl) ?_
        refine lv_goto (tgt := 71) hx hb dX9_feed_32 (by decide) ?_
        exact k_X9_feed_L71  F hr ih  v1 v2 v3 v4 v5 v6 v1 S h _ _ _ hW hS (lv_sub hl [0, 1, 2, 3, 4, 5, 6] rfl)
set_option maxHeartbeats 4000000 in
set_option maxRecDepth 100000 in
theorem c_X9_feed (l : Launch) (D : va_G) (a : Nat → Nat) (cs : zx_C) (fu : Nat) (p0 : Int32) (p1 : Int32) (p2 : Int32) (p3 : Int32) (p4 : Int32)  (S : St) (r9 : Int32) (S9 : St) (h : f_X9_feed fu p0 p1 p2 p3 p4 S = some (r9, S9)) : Met l yX9_feed (Cond.code yX9_feed cX9_feed 8 (some (.int)) :: zx_tb) ({ frames := 0, cells := 0, slots := 0, locals := 0 }) (zx_P D a cs [.ref (a 43), .int p0, .int p1, .int p2, .int p3, .int p4] S) (zx_Qi D a cs r9 S9) 0 0 (zx_A a) := by
  refine zx_met (own := RX9) (by decide) (Nat.le_of_ble_eq_true rfl) rfl ?_
  intro p e s m below meth c ls F hr hW hS hl
  have hl : lv_has ls 8 [(0, .ref (a 43)), (1, .int p0), (2, .int p1), (3, .int p2), (4, .int p3), (5, .int p4)] := hl
  obtain ⟨⟨hx, hb, hml, hown, hts⟩, hlk, hK, hJ, hN⟩ := id F
  unfold f_X9_feed at h
  refine lv_aload_n hx hb dX9_feed_0 rfl (lv_at hl 0 rfl) ?_
  refine zx_get (C := RX9) (T := TX9) (N := 35) F hW wu_X9 (by decide) zx_E43 rfl 1 (by decide) wf_X9_70 rfl dX9_feed_1 ?_
  refine lv_bipush (v := 20) hx hb dX9_feed_4 (by decide) ?_
  refine lv_iadd hx hb dX9_feed_6 ?_
  refine lv_sipush (v := 4000) hx hb dX9_feed_7 (by decide) ?_
  refine lv_icmp_le (tgt := 15) hx hb dX9_feed_10 (by decide) (fun c1 => ?_) (fun c1 => ?_)
  · have h := g_t c1 h
    refine lv_iconst (v := 0) hx hb dX9_feed_15 (by decide) ?_
    refine lv_istore (lv' := [(6, .int (0 : Int32)), (0, .ref (a 43)), (1, .int p0), (2, .int p1), (3, .int p2), (4, .int p3), (5, .int p4)]) hx hb dX9_feed_16 hl (by decide) rfl (fun ls hl => ?_)
    exact k_X9_feed_L18  F hr   fu p0 p1 p2 p3 p4 (0 : Int32) S h _ _ _ hW hS (lv_sub hl [1, 2, 3, 4, 5, 6, 0] rfl)
  · have h := g_f c1 h
    refine lv_iconst (v := -1) hx hb dX9_feed_13 (by decide) ?_
    exact zx_ri F hr hW hS h dX9_feed_14
theorem Y_X9_firstOf : zx_Y yX9_firstOf cX9_firstOf 3 (some (.int)) 2 := ⟨wc_X9_firstOf, wn_X9, by decide, by decide, by decide +kernel⟩
set_option maxHeartbeats 4000000 in
set_option maxRecDepth 100000 in
theorem c_X9_firstOf (l : Launch) (D : va_G) (a : Nat → Nat) (cs : zx_C) (p0 : Int32) (p1 : Int32)  (S : St) (r9 : Int32) (S9 : St) (h : f_X9_firstOf p0 p1 S = some (r9, S9)) : Met l yX9_firstOf (Cond.code yX9_firstOf cX9_firstOf 3 (some (.int)) :: zx_tb) ({ frames := 0, cells := 0, slots := 0, locals := 0 }) (zx_P D a cs [.ref (a 43), .int p0, .int p1] S) (zx_Qi D a cs r9 S9) 0 0 (zx_A a) := by
  refine zx_met (own := RX9) (by decide) (Nat.le_of_ble_eq_true rfl) rfl ?_
  intro p e s m below meth c ls F hr hW hS hl
  have hl : lv_has ls 3 [(0, .ref (a 43)), (1, .int p0), (2, .int p1)] := hl
  obtain ⟨⟨hx, hb, hml, hown, hts⟩, hlk, hK, hJ, hN⟩ := id F
  unfold f_X9_firstOf at h
  refine lv_iload_n hx hb dX9_firstOf_0 rfl (lv_at hl 2 rfl) ?_
  refine lv_if_ne (tgt := 15) hx hb dX9_firstOf_1 (by decide) (fun c1 => ?_) (fun c1 => ?_)
  · have h := g_f c1 h
    refine lv_ldc (v := 8388608) hx hb hown (hts _ wk_X9_118) dX9_firstOf_15 ?_
    exact zx_ri F hr hW hS h dX9_firstOf_17
  · have h := g_t c1 h
    refine lv_iconst (v := 1) hx hb dX9_firstOf_4 (by decide) ?_
    refine lv_aload_n hx hb dX9_firstOf_5 rfl (lv_at hl 0 rfl) ?_
    refine zx_get (C := RX9) (T := TX9) (N := 35) F hW wu_X9 (by decide) zx_E43 rfl 4 (by decide) wf_X9_16 rfl dX9_firstOf_6 ?_
    refine lv_iload_n hx hb dX9_firstOf_9 rfl (lv_at hl 1 rfl) ?_
    obtain ⟨c2, h⟩ := g_no h
    refine zx_iald (n := 7) F hW (by decide) zx_E46 c2 dX9_firstOf_10 ?_
    refine lv_ishl hx hb dX9_firstOf_11 ?_
    refine lv_goto (tgt := 17) hx hb dX9_firstOf_12 (by decide) ?_
    exact zx_ri F hr hW hS h dX9_firstOf_17
theorem Y_X9_gone : zx_Y yX9_gone cX9_gone 2 (some (.int)) 1 := ⟨wc_X9_gone, wn_X9, by decide, by decide, by decide +kernel⟩
set_option maxHeartbeats 4000000 in
set_option maxRecDepth 100000 in
theorem c_X9_gone (l : Launch) (D : va_G) (a : Nat → Nat) (cs : zx_C) (p0 : Int32)  (S : St) (r9 : Int32) (S9 : St) (h : f_X9_gone p0 S = some (r9, S9)) : Met l yX9_gone (Cond.code yX9_gone cX9_gone 2 (some (.int)) :: zx_tb) ({ frames := 0, cells := 0, slots := 0, locals := 0 }) (zx_P D a cs [.ref (a 43), .int p0] S) (zx_Qi D a cs r9 S9) 0 0 (zx_A a) := by
  refine zx_met (own := RX9) (by decide) (Nat.le_of_ble_eq_true rfl) rfl ?_
  intro p e s m below meth c ls F hr hW hS hl
  have hl : lv_has ls 2 [(0, .ref (a 43)), (1, .int p0)] := hl
  obtain ⟨⟨hx, hb, hml, hown, hts⟩, hlk, hK, hJ, hN⟩ := id F
  unfold f_X9_gone at h
  refine lv_iload_n hx hb dX9_gone_0 rfl (lv_at hl 1 rfl) ?_
  refine lv_if_ne (tgt := 11) hx hb dX9_gone_1 (by decide) (fun c1 => ?_) (fun c1 => ?_)
  · have h := g_f c1 h
    refine lv_iload_n hx hb dX9_gone_11 rfl (lv_at hl 1 rfl) ?_
    refine lv_iconst (v := 1) hx hb dX9_gone_12 (by decide) ?_
    refine lv_icmp_ne (tgt := 23) hx hb dX9_gone_13 (by decide) (fun c2 => ?_) (fun c2 => ?_)
    · have h := g_f c2 h
      refine lv_iconst (v := -1) hx hb dX9_gone_23 (by decide) ?_
      exact zx_ri F hr hW hS h dX9_gone_24
    · have h := g_t c2 h
      refine lv_aload_n hx hb dX9_gone_16 rfl (lv_at hl 0 rfl) ?_
      refine zx_get (C := RX9) (T := TX9) (N := 35) F hW wu_X9 (by decide) zx_E43 rfl 19 (by decide) wf_X9_137 rfl dX9_gone_17 ?_
      refine lv_goto (tgt := 24) hx hb dX9_gone_20 (by decide) ?_
      exact zx_ri F hr hW hS h dX9_gone_24
  · have h := g_t c1 h
    refine lv_aload_n hx hb dX9_gone_4 rfl (lv_at hl 0 rfl) ?_
    refine zx_get (C := RX9) (T := TX9) (N := 35) F hW wu_X9 (by decide) zx_E43 rfl 18 (by decide) wf_X9_134 rfl dX9_gone_5 ?_
    refine lv_goto (tgt := 24) hx hb dX9_gone_8 (by decide) ?_
    exact zx_ri F hr hW hS h dX9_gone_24
theorem Y_X9_refusal : zx_Y yX9_refusal cX9_refusal 3 (some (.int)) 1 := ⟨wc_X9_refusal, wn_X9, by decide, by decide, by decide +kernel⟩
set_option maxHeartbeats 4000000 in
set_option maxRecDepth 100000 in
theorem k_X9_refusal_L15 {l : Launch} {D : va_G} {a : Nat → Nat} {cs : zx_C} {p : Program} {e : Env} {s : State} {m : MethodId} {below : List Frame} {meth : Method} {c : Code} {fu : Nat} {p0 : Int32}  (F : zx_F D a cs p m c cX9_refusal 3 s ([.ref (a 43), .int p0] : List Value).toArray RX9 meth) (hr : meth.sig.returnType = (some (.int))) {r9 : Int32} {S9 : St}    : ∀ (n : Nat) (v1 : Int32) (v2 : Int32) (S : St), f_X9_refusal_L15 fu p0   n v1 v2 S = some (r9, S9) → ∀ (H : Heap) (locs : List Loc) (ls : Array Slot), zx_W D a cs S H → va_S (zx_A a) s.heap H locs → lv_has ls 3 [(0, .ref (a 43)), (1, .int v1), (2, .int v2)] → W p l e ({ frames := 0, cells := 0, slots := 0, locals := 0 }) s m ([.ref (a 43), .int p0] : List Value).toArray below meth c H locs 0 0 (MQ below (zx_Qi D a cs r9 S9) ([.ref (a 43), .int p0] : List Value).toArray s 0 0 (zx_A a)) (F0 m 15 ls []) := by
  obtain ⟨⟨hx, hb, hml, hown, hts⟩, hlk, hK, hJ, hN⟩ := id F
  intro n
  induction n with
  | zero =>
    intro v1 v2 S h
    exact absurd h (fun q => by cases q)
  | succ n ih =>
    intro v1 v2 S h H locs ls hW hS hl
    rw [f_X9_refusal_L15_s] at h
    refine lv_iload_n hx hb dX9_refusal_15 rfl (lv_at hl 2 rfl) ?_
    refine lv_aload_n hx hb dX9_refusal_16 rfl (lv_at hl 0 rfl) ?_
    refine zx_get (C := RX9) (T := TX9) (N := 35) F hW wu_X9 (by decide) zx_E43 rfl 1 (by decide) wf_X9_70 rfl dX9_refusal_17 ?_
    refine lv_icmp_ge (tgt := 52) hx hb dX9_refusal_20 (by decide) (fun c2 => ?_) (fun c2 => ?_)
    · have h := g_t c2 h
      refine lv_iconst (v := 0) hx hb dX9_refusal_52 (by decide) ?_
      exact zx_ri F hr hW hS h dX9_refusal_53
    · have h := g_f c2 h
      refine lv_aload_n hx hb dX9_refusal_23 rfl (lv_at hl 0 rfl) ?_
      refine zx_get (C := RX9) (T := TX9) (N := 35) F hW wu_X9 (by decide) zx_E43 rfl 5 (by decide) wf_X9_19 rfl dX9_refusal_24 ?_
      refine lv_sipush (v := 256) hx hb dX9_refusal_27 (by decide) ?_
      refine lv_iload_n hx hb dX9_refusal_30 rfl (lv_at hl 1 rfl) ?_
      refine lv_imul hx hb dX9_refusal_31 ?_
      refine lv_aload_n hx hb dX9_refusal_32 rfl (lv_at hl 0 rfl) ?_
      refine zx_get (C := RX9) (T := TX9) (N := 35) F hW wu_X9 (by decide) zx_E43 rfl 0 (by decide) wf_X9_7 rfl dX9_refusal_33 ?_
      refine lv_iload_n hx hb dX9_refusal_36 rfl (lv_at hl 2 rfl) ?_
      obtain ⟨c3, h⟩ := g_no h
      refine zx_iald (n := 4000) F hW (by decide) zx_E44 c3 dX9_refusal_37 ?_
      refine lv_iadd hx hb dX9_refusal_38 ?_
      obtain ⟨c4, h⟩ := g_no h
      refine zx_iald (n := 1792) F hW (by decide) zx_E47 c4 dX9_refusal_39 ?_
      refine lv_if_ne (tgt := 46) hx hb dX9_refusal_40 (by decide) (fun c5 => ?_) (fun c5 => ?_)
      · have h := g_f c5 h
        obtain ⟨x6, ex6, h⟩ := g_pin h
        refine lv_iinc (v := x6) (lv' := [(2, .int x6), (0, .ref (a 43)), (1, .int v1)]) hx hb dX9_refusal_46 hl (k := 2) rfl (by rw [ex6]; rfl) (by decide) rfl (fun ls hl => ?_)
        refine lv_goto (tgt := 15) hx hb dX9_refusal_49 (by decide) ?_
        exact ih v1 x6 S h _ _ _ hW hS (lv_sub hl [1, 2, 0] rfl)
      · have h := g_t c5 h
        refine lv_bipush (v := -3) hx hb dX9_refusal_43 (by decide) ?_
        exact zx_ri F hr hW hS h dX9_refusal_45
set_option maxHeartbeats 4000000 in
set_option maxRecDepth 100000 in
theorem c_X9_refusal (l : Launch) (D : va_G) (a : Nat → Nat) (cs : zx_C) (fu : Nat) (p0 : Int32)  (S : St) (r9 : Int32) (S9 : St) (h : f_X9_refusal fu p0 S = some (r9, S9)) : Met l yX9_refusal (Cond.code yX9_refusal cX9_refusal 3 (some (.int)) :: zx_tb) ({ frames := 0, cells := 0, slots := 0, locals := 0 }) (zx_P D a cs [.ref (a 43), .int p0] S) (zx_Qi D a cs r9 S9) 0 0 (zx_A a) := by
  refine zx_met (own := RX9) (by decide) (Nat.le_of_ble_eq_true rfl) rfl ?_
  intro p e s m below meth c ls F hr hW hS hl
  have hl : lv_has ls 3 [(0, .ref (a 43)), (1, .int p0)] := hl
  obtain ⟨⟨hx, hb, hml, hown, hts⟩, hlk, hK, hJ, hN⟩ := id F
  unfold f_X9_refusal at h
  refine lv_aload_n hx hb dX9_refusal_0 rfl (lv_at hl 0 rfl) ?_
  refine zx_get (C := RX9) (T := TX9) (N := 35) F hW wu_X9 (by decide) zx_E43 rfl 1 (by decide) wf_X9_70 rfl dX9_refusal_1 ?_
  refine lv_sipush (v := 1400) hx hb dX9_refusal_4 (by decide) ?_
  refine lv_icmp_le (tgt := 13) hx hb dX9_refusal_7 (by decide) (fun c1 => ?_) (fun c1 => ?_)
  · have h := g_t c1 h
    refine lv_iconst (v := 0) hx hb dX9_refusal_13 (by decide) ?_
    refine lv_istore_n (lv' := [(2, .int (0 : Int32)), (0, .ref (a 43)), (1, .int p0)]) hx hb dX9_refusal_14 rfl hl (by decide) rfl (fun ls hl => ?_)
    exact k_X9_refusal_L15  F hr   fu p0 (0 : Int32) S h _ _ _ hW hS (lv_sub hl [1, 2, 0] rfl)
  · have h := g_f c1 h
    refine lv_bipush (v := -2) hx hb dX9_refusal_10 (by decide) ?_
    exact zx_ri F hr hW hS h dX9_refusal_12
theorem Y_X9_ideal : zx_Y yX9_ideal cX9_ideal 9 (some (.int)) 1 := ⟨wc_X9_ideal, wn_X9, by decide, by decide, by decide +kernel⟩
set_option maxHeartbeats 4000000 in
set_option maxRecDepth 100000 in
theorem k_X9_ideal_L155 {l : Launch} {D : va_G} {a : Nat → Nat} {cs : zx_C} {p : Program} {e : Env} {s : State} {m : MethodId} {below : List Frame} {meth : Method} {c : Code} {fu : Nat} {p0 : Int32}  (F : zx_F D a cs p m c cX9_ideal 9 s ([.ref (a 43), .int p0] : List Value).toArray RX9 meth) (hr : meth.sig.returnType = (some (.int))) {r9 : Int32} {S9 : St}    : ∀ (n : Nat) (v1 : Int32) (v4 : Int32) (v5 : Int32) (S : St), f_X9_ideal_L155 fu p0   n v1 v4 v5 S = some (r9, S9) → ∀ (H : Heap) (locs : List Loc) (ls : Array Slot), zx_W D a cs S H → va_S (zx_A a) s.heap H locs → lv_has ls 9 [(0, .ref (a 43)), (1, .int v1), (4, .int v4), (5, .int v5)] → W p l e ({ frames := 1, cells := 0, slots := 0, locals := 22 }) s m ([.ref (a 43), .int p0] : List Value).toArray below meth c H locs 0 0 (MQ below (zx_Qi D a cs r9 S9) ([.ref (a 43), .int p0] : List Value).toArray s 0 0 (zx_A a)) (F0 m 155 ls []) := by
  obtain ⟨⟨hx, hb, hml, hown, hts⟩, hlk, hK, hJ, hN⟩ := id F
  intro n
  induction n with
  | zero =>
    intro v1 v4 v5 S h
    exact absurd h (fun q => by cases q)
  | succ n ih =>
    intro v1 v4 v5 S h H locs ls hW hS hl
    rw [f_X9_ideal_L155_s] at h
    refine lv_iload hx hb dX9_ideal_155 (lv_at hl 3 rfl) ?_
    refine lv_if_le (tgt := 172) hx hb dX9_ideal_157 (by decide) (fun c14 => ?_) (fun c14 => ?_)
    · have h := g_t c14 h
      refine lv_aload_n hx hb dX9_ideal_172 rfl (lv_at hl 0 rfl) ?_
      refine zx_get (C := RX9) (T := TX9) (N := 35) F hW wu_X9 (by decide) zx_E43 rfl 4 (by decide) wf_X9_16 rfl dX9_ideal_173 ?_
      refine lv_iload_n hx hb dX9_ideal_176 rfl (lv_at hl 1 rfl) ?_
      obtain ⟨c15, h⟩ := g_no h
      refine zx_iald (n := 7) F hW (by decide) zx_E46 c15 dX9_ideal_177 ?_
      refine lv_aload_n hx hb dX9_ideal_178 rfl (lv_at hl 0 rfl) ?_
      refine zx_get (C := RX9) (T := TX9) (N := 35) F hW wu_X9 (by decide) zx_E43 rfl 1 (by decide) wf_X9_70 rfl dX9_ideal_179 ?_
      refine lv_imul hx hb dX9_ideal_182 ?_
      refine lv_iload hx hb dX9_ideal_183 (lv_at hl 2 rfl) ?_
      refine lv_isub hx hb dX9_ideal_185 ?_
      refine lv_iconst (v := 1) hx hb dX9_ideal_186 (by decide) ?_
      refine lv_iadd hx hb dX9_ideal_187 ?_
      obtain ⟨x16, ex16, h⟩ := g_pin h
      refine zx_nm ex16 ?_
      refine lv_istore (lv' := [(5, .int x16), (0, .ref (a 43)), (1, .int v1), (4, .int v4)]) hx hb dX9_ideal_188 hl (by decide) rfl (fun ls hl => ?_)
      refine lv_iload hx hb dX9_ideal_190 (lv_at hl 0 rfl) ?_
      refine lv_if_ge (tgt := 199) hx hb dX9_ideal_192 (by decide) (fun c17 => ?_) (fun c17 => ?_)
      · have h := g_t c17 h
        refine lv_iload hx hb dX9_ideal_199 (lv_at hl 0 rfl) ?_
        exact zx_ri F hr hW hS h dX9_ideal_201
      · have h := g_f c17 h
        refine lv_iconst (v := 0) hx hb dX9_ideal_195 (by decide) ?_
        refine lv_goto (tgt := 201) hx hb dX9_ideal_196 (by decide) ?_
        exact zx_ri F hr hW hS h dX9_ideal_201
    · have h := g_f c14 h
      obtain ⟨x18, ex18, h⟩ := g_pin h
      refine lv_iinc (v := x18) (lv' := [(4, .int x18), (0, .ref (a 43)), (1, .int v1), (5, .int v5)]) hx hb dX9_ideal_160 hl (k := 2) rfl (by rw [ex18]; rfl) (by decide) rfl (fun ls hl => ?_)
      refine lv_iload hx hb dX9_ideal_163 (lv_at hl 3 rfl) ?_
      refine lv_iconst (v := 1) hx hb dX9_ideal_165 (by decide) ?_
      refine lv_ishr hx hb dX9_ideal_166 ?_
      obtain ⟨x19, ex19, h⟩ := g_pin h
      refine zx_nm ex19 ?_
      refine lv_istore (lv' := [(5, .int x19), (4, .int x18), (0, .ref (a 43)), (1, .int v1)]) hx hb dX9_ideal_167 hl (by decide) rfl (fun ls hl => ?_)
      refine lv_goto (tgt := 155) hx hb dX9_ideal_169 (by decide) ?_
      exact ih v1 x18 x19 S h _ _ _ hW hS (lv_sub hl [2, 3, 1, 0] rfl)
set_option maxHeartbeats 4000000 in
set_option maxRecDepth 100000 in
theorem k_X9_ideal_L131 {l : Launch} {D : va_G} {a : Nat → Nat} {cs : zx_C} {p : Program} {e : Env} {s : State} {m : MethodId} {below : List Frame} {meth : Method} {c : Code} {fu : Nat} {p0 : Int32}  (F : zx_F D a cs p m c cX9_ideal 9 s ([.ref (a 43), .int p0] : List Value).toArray RX9 meth) (hr : meth.sig.returnType = (some (.int))) {r9 : Int32} {S9 : St} {K34 : Int32 → Int32 → Int32 → St → Option (Int32 × St)} (hK34 : ∀ (v1 : Int32) (v3 : Int32) (v4 : Int32) (S : St), K34 v1 v3 v4 S = some (r9, S9) → ∀ (H : Heap) (locs : List Loc) (ls : Array Slot), zx_W D a cs S H → va_S (zx_A a) s.heap H locs → lv_has ls 9 [(0, .ref (a 43)), (1, .int v1), (3, .int v3), (4, .int v4)] → W p l e ({ frames := 1, cells := 0, slots := 0, locals := 22 }) s m ([.ref (a 43), .int p0] : List Value).toArray below meth c H locs 0 0 (MQ below (zx_Qi D a cs r9 S9) ([.ref (a 43), .int p0] : List Value).toArray s 0 0 (zx_A a)) (F0 m 34 ls []))  (v1 : Int32) (v3 : Int32) (v4 : Int32) (S : St) (h : f_X9_ideal_L131 fu p0 K34  v1 v3 v4 S = some (r9, S9)) (H : Heap) (locs : List Loc) (ls : Array Slot) (hW : zx_W D a cs S H) (hS : va_S (zx_A a) s.heap H locs) (hl : lv_has ls 9 [(0, .ref (a 43)), (1, .int v1), (3, .int v3), (4, .int v4)]) : W p l e ({ frames := 1, cells := 0, slots := 0, locals := 22 }) s m ([.ref (a 43), .int p0] : List Value).toArray below meth c H locs 0 0 (MQ below (zx_Qi D a cs r9 S9) ([.ref (a 43), .int p0] : List Value).toArray s 0 0 (zx_A a)) (F0 m 131 ls []) := by
  obtain ⟨⟨hx, hb, hml, hown, hts⟩, hlk, hK, hJ, hN⟩ := id F
  unfold f_X9_ideal_L131 at h
  obtain ⟨x25, ex25, h⟩ := g_pin h
  refine lv_iinc (v := x25) (lv' := [(4, .int x25), (0, .ref (a 43)), (1, .int v1), (3, .int v3)]) hx hb dX9_ideal_131 hl (k := 3) rfl (by rw [ex25]; rfl) (by decide) rfl (fun ls hl => ?_)
  refine lv_goto (tgt := 34) hx hb dX9_ideal_134 (by decide) ?_
  exact hK34 v1 v3 x25 S h _ _ _ hW hS (lv_sub hl [1, 2, 3, 0] rfl)
set_option maxHeartbeats 4000000 in
set_option maxRecDepth 100000 in
theorem k_X9_ideal_L69 {l : Launch} {D : va_G} {a : Nat → Nat} {cs : zx_C} {p : Program} {e : Env} {s : State} {m : MethodId} {below : List Frame} {meth : Method} {c : Code} {fu : Nat} {p0 : Int32}  (F : zx_F D a cs p m c cX9_ideal 9 s ([.ref (a 43), .int p0] : List Value).toArray RX9 meth) (hr : meth.sig.returnType = (some (.int))) {r9 : Int32} {S9 : St} {K34 : Int32 → Int32 → Int32 → St → Option (Int32 × St)} (hK34 : ∀ (v1 : Int32) (v3 : Int32) (v4 : Int32) (S : St), K34 v1 v3 v4 S = some (r9, S9) → ∀ (H : Heap) (locs : List Loc) (ls : Array Slot), zx_W D a cs S H → va_S (zx_A a) s.heap H locs → lv_has ls 9 [(0, .ref (a 43)), (1, .int v1), (3, .int v3), (4, .int v4)] → W p l e ({ frames := 1, cells := 0, slots := 0, locals := 22 }) s m ([.ref (a 43), .int p0] : List Value).toArray below meth c H locs 0 0 (MQ below (zx_Qi D a cs r9 S9) ([.ref (a 43), .int p0] : List Value).toArray s 0 0 (zx_A a)) (F0 m 34 ls []))  : ∀ (n : Nat) (v1 : Int32) (v3 : Int32) (v4 : Int32) (v5 : Int32) (v6 : Int32) (v7 : Int32) (S : St), f_X9_ideal_L69 fu p0 K34  n v1 v3 v4 v5 v6 v7 S = some (r9, S9) → ∀ (H : Heap) (locs : List Loc) (ls : Array Slot), zx_W D a cs S H → va_S (zx_A a) s.heap H locs → lv_has ls 9 [(0, .ref (a 43)), (1, .int v1), (3, .int v3), (4, .int v4), (5, .int v5), (6, .int v6), (7, .int v7)] → W p l e ({ frames := 1, cells := 0, slots := 0, locals := 22 }) s m ([.ref (a 43), .int p0] : List Value).toArray below meth c H locs 0 0 (MQ below (zx_Qi D a cs r9 S9) ([.ref (a 43), .int p0] : List Value).toArray s 0 0 (zx_A a)) (F0 m 69 ls []) := by
  obtain ⟨⟨hx, hb, hml, hown, hts⟩, hlk, hK, hJ, hN⟩ := id F
  intro n
  induction n with
  | zero =>
    intro v1 v3 v4 v5 v6 v7 S h
    exact absurd h (fun q => by cases q)
  | succ n ih =>
    intro v1 v3 v4 v5 v6 v7 S h H locs ls hW hS hl
    rw [f_X9_ideal_L69_s] at h
    refine lv_iload hx hb dX9_ideal_69 (lv_at hl 6 rfl) ?_
    refine lv_iload_n hx hb dX9_ideal_71 rfl (lv_at hl 2 rfl) ?_
    refine lv_icmp_ge (tgt := 115) hx hb dX9_ideal_72 (by decide) (fun c23 => ?_) (fun c23 => ?_)
    · have h := g_t c23 h
      refine lv_iload hx hb dX9_ideal_115 (lv_at hl 5 rfl) ?_
      refine lv_if_le (tgt := 131) hx hb dX9_ideal_117 (by decide) (fun c24 => ?_) (fun c24 => ?_)
      · have h := g_t c24 h
        exact k_X9_ideal_L131  F hr hK34  v1 v3 v4 S h _ _ _ hW hS (lv_sub hl [0, 1, 2, 3] rfl)
      · have h := g_f c24 h
        refine lv_aload_n hx hb dX9_ideal_120 rfl (lv_at hl 0 rfl) ?_
        refine zx_get (C := RX9) (T := TX9) (N := 35) F hW wu_X9 (by decide) zx_E43 rfl 26 (by decide) wf_X9_64 rfl dX9_ideal_121 ?_
        refine lv_iload_n hx hb dX9_ideal_124 rfl (lv_at hl 2 rfl) ?_
        refine lv_iload hx hb dX9_ideal_125 (lv_at hl 5 rfl) ?_
        obtain ⟨c27, h⟩ := g_no h
        obtain ⟨S26, eS26, h⟩ := g_pin h
        refine zx_iast (n := 1060) F hW hS (by decide) (fun f => zx_E60) c27 dX9_ideal_127 (fun H locs hW hS => ?_)
        have hW : zx_W D a cs S26 H := by rw [eS26]; exact hW
        obtain ⟨x28, ex28, h⟩ := g_pin h
        refine lv_iinc (v := x28) (lv' := [(3, .int x28), (0, .ref (a 43)), (1, .int v1), (4, .int v4), (5, .int v5), (6, .int v6), (7, .int v7)]) hx hb dX9_ideal_128 hl (k := 2) rfl (by rw [ex28]; rfl) (by decide) rfl (fun ls hl => ?_)
        exact k_X9_ideal_L131  F hr hK34  v1 x28 v4 S26 h _ _ _ hW hS (lv_sub hl [1, 2, 0, 3] rfl)
    · have h := g_f c23 h
      refine lv_aload_n hx hb dX9_ideal_75 rfl (lv_at hl 0 rfl) ?_
      refine zx_get (C := RX9) (T := TX9) (N := 35) F hW wu_X9 (by decide) zx_E43 rfl 26 (by decide) wf_X9_64 rfl dX9_ideal_76 ?_
      refine lv_iload hx hb dX9_ideal_79 (lv_at hl 6 rfl) ?_
      obtain ⟨c29, h⟩ := g_no h
      refine zx_iald (n := 1060) F hW (by decide) zx_E60 c29 dX9_ideal_81 ?_
      refine lv_iload hx hb dX9_ideal_82 (lv_at hl 4 rfl) ?_
      refine lv_imul hx hb dX9_ideal_84 ?_
      refine lv_iload hx hb dX9_ideal_85 (lv_at hl 5 rfl) ?_
      refine lv_iadd hx hb dX9_ideal_87 ?_
      obtain ⟨x30, ex30, h⟩ := g_pin h
      refine zx_nm ex30 ?_
      refine lv_istore (lv' := [(8, .int x30), (0, .ref (a 43)), (1, .int v1), (3, .int v3), (4, .int v4), (5, .int v5), (6, .int v6), (7, .int v7)]) hx hb dX9_ideal_88 hl (by decide) rfl (fun ls hl => ?_)
      refine lv_aload_n hx hb dX9_ideal_90 rfl (lv_at hl 1 rfl) ?_
      refine zx_get (C := RX9) (T := TX9) (N := 35) F hW wu_X9 (by decide) zx_E43 rfl 26 (by decide) wf_X9_64 rfl dX9_ideal_91 ?_
      refine lv_iload hx hb dX9_ideal_94 (lv_at hl 7 rfl) ?_
      refine lv_iload hx hb dX9_ideal_96 (lv_at hl 0 rfl) ?_
      refine lv_ldc (v := 65535) hx hb hown (hts _ wk_X9_169) dX9_ideal_98 ?_
      refine lv_iand hx hb dX9_ideal_100 ?_
      obtain ⟨c32, h⟩ := g_no h
      obtain ⟨S31, eS31, h⟩ := g_pin h
      refine zx_iast (n := 1060) F hW hS (by decide) (fun f => zx_E60) c32 dX9_ideal_101 (fun H locs hW hS => ?_)
      have hW : zx_W D a cs S31 H := by rw [eS31]; exact hW
      refine lv_iload hx hb dX9_ideal_102 (lv_at hl 0 rfl) ?_
      refine lv_bipush (v := 16) hx hb dX9_ideal_104 (by decide) ?_
      refine lv_ishr hx hb dX9_ideal_106 ?_
      obtain ⟨x33, ex33, h⟩ := g_pin h
      refine zx_nm ex33 ?_
      refine lv_istore (lv' := [(6, .int x33), (8, .int x30), (0, .ref (a 43)), (1, .int v1), (3, .int v3), (4, .int v4), (5, .int v5), (7, .int v7)]) hx hb dX9_ideal_107 hl (by decide) rfl (fun ls hl => ?_)
      obtain ⟨x34, ex34, h⟩ := g_pin h
      refine lv_iinc (v := x34) (lv' := [(7, .int x34), (6, .int x33), (8, .int x30), (0, .ref (a 43)), (1, .int v1), (3, .int v3), (4, .int v4), (5, .int v5)]) hx hb dX9_ideal_109 hl (k := 7) rfl (by rw [ex34]; rfl) (by decide) rfl (fun ls hl => ?_)
      refine lv_goto (tgt := 69) hx hb dX9_ideal_112 (by decide) ?_
      exact ih v1 v3 v4 v5 x33 x34 S31 h _ _ _ hW hS (lv_sub hl [3, 4, 5, 6, 7, 1, 0] rfl)
set_option maxHeartbeats 4000000 in
set_option maxRecDepth 100000 in
theorem k_X9_ideal_L34 {l : Launch} {D : va_G} {a : Nat → Nat} {cs : zx_C} {p : Program} {e : Env} {s : State} {m : MethodId} {below : List Frame} {meth : Method} {c : Code} {fu : Nat} {p0 : Int32}  (F : zx_F D a cs p m c cX9_ideal 9 s ([.ref (a 43), .int p0] : List Value).toArray RX9 meth) (hr : meth.sig.returnType = (some (.int))) {r9 : Int32} {S9 : St}    : ∀ (n : Nat) (v1 : Int32) (v3 : Int32) (v4 : Int32) (S : St), f_X9_ideal_L34 fu p0   n v1 v3 v4 S = some (r9, S9) → ∀ (H : Heap) (locs : List Loc) (ls : Array Slot), zx_W D a cs S H → va_S (zx_A a) s.heap H locs → lv_has ls 9 [(0, .ref (a 43)), (1, .int v1), (3, .int v3), (4, .int v4)] → W p l e ({ frames := 1, cells := 0, slots := 0, locals := 22 }) s m ([.ref (a 43), .int p0] : List Value).toArray below meth c H locs 0 0 (MQ below (zx_Qi D a cs r9 S9) ([.ref (a 43), .int p0] : List Value).toArray s 0 0 (zx_A a)) (F0 m 34 ls []) := by
  obtain ⟨⟨hx, hb, hml, hown, hts⟩, hlk, hK, hJ, hN⟩ := id F
  intro n
  induction n with
  | zero =>
    intro v1 v3 v4 S h
    exact absurd h (fun q => by cases q)
  | succ n ih =>
    intro v1 v3 v4 S h H locs ls hW hS hl
    rw [f_X9_ideal_L34_s] at h
    refine lv_iload hx hb dX9_ideal_34 (lv_at hl 3 rfl) ?_
    refine lv_aload_n hx hb dX9_ideal_36 rfl (lv_at hl 0 rfl) ?_
    refine zx_get (C := RX9) (T := TX9) (N := 35) F hW wu_X9 (by decide) zx_E43 rfl 1 (by decide) wf_X9_70 rfl dX9_ideal_37 ?_
    refine lv_icmp_ge (tgt := 137) hx hb dX9_ideal_40 (by decide) (fun c10 => ?_) (fun c10 => ?_)
    · have h := g_t c10 h
      refine lv_bipush (v := 16) hx hb dX9_ideal_137 (by decide) ?_
      refine lv_iload_n hx hb dX9_ideal_139 rfl (lv_at hl 2 rfl) ?_
      refine lv_iconst (v := 1) hx hb dX9_ideal_140 (by decide) ?_
      refine lv_isub hx hb dX9_ideal_141 ?_
      refine lv_imul hx hb dX9_ideal_142 ?_
      obtain ⟨x11, ex11, h⟩ := g_pin h
      refine zx_nm ex11 ?_
      refine lv_istore (lv' := [(4, .int x11), (0, .ref (a 43)), (1, .int v1), (3, .int v3)]) hx hb dX9_ideal_143 hl (by decide) rfl (fun ls hl => ?_)
      refine lv_aload_n hx hb dX9_ideal_145 rfl (lv_at hl 1 rfl) ?_
      refine zx_get (C := RX9) (T := TX9) (N := 35) F hW wu_X9 (by decide) zx_E43 rfl 26 (by decide) wf_X9_64 rfl dX9_ideal_146 ?_
      refine lv_iload_n hx hb dX9_ideal_149 rfl (lv_at hl 3 rfl) ?_
      refine lv_iconst (v := 1) hx hb dX9_ideal_150 (by decide) ?_
      refine lv_isub hx hb dX9_ideal_151 ?_
      obtain ⟨c12, h⟩ := g_no h
      refine zx_iald (n := 1060) F hW (by decide) zx_E60 c12 dX9_ideal_152 ?_
      obtain ⟨x13, ex13, h⟩ := g_pin h
      refine zx_nm ex13 ?_
      refine lv_istore (lv' := [(5, .int x13), (4, .int x11), (0, .ref (a 43)), (1, .int v1), (3, .int v3)]) hx hb dX9_ideal_153 hl (by decide) rfl (fun ls hl => ?_)
      exact k_X9_ideal_L155  F hr   fu v1 x11 x13 S h _ _ _ hW hS (lv_sub hl [2, 3, 1, 0] rfl)
    · have h := g_f c10 h
      refine lv_aload_n hx hb dX9_ideal_43 rfl (lv_at hl 0 rfl) ?_
      refine zx_get (C := RX9) (T := TX9) (N := 35) F hW wu_X9 (by decide) zx_E43 rfl 5 (by decide) wf_X9_19 rfl dX9_ideal_44 ?_
      refine lv_sipush (v := 256) hx hb dX9_ideal_47 (by decide) ?_
      refine lv_iload_n hx hb dX9_ideal_50 rfl (lv_at hl 1 rfl) ?_
      refine lv_imul hx hb dX9_ideal_51 ?_
      refine lv_aload_n hx hb dX9_ideal_52 rfl (lv_at hl 0 rfl) ?_
      refine zx_get (C := RX9) (T := TX9) (N := 35) F hW wu_X9 (by decide) zx_E43 rfl 0 (by decide) wf_X9_7 rfl dX9_ideal_53 ?_
      refine lv_iload hx hb dX9_ideal_56 (lv_at hl 3 rfl) ?_
      obtain ⟨c20, h⟩ := g_no h
      refine zx_iald (n := 4000) F hW (by decide) zx_E44 c20 dX9_ideal_58 ?_
      refine lv_iadd hx hb dX9_ideal_59 ?_
      obtain ⟨c21, h⟩ := g_no h
      refine zx_iald (n := 1792) F hW (by decide) zx_E47 c21 dX9_ideal_60 ?_
      obtain ⟨x22, ex22, h⟩ := g_pin h
      refine zx_nm ex22 ?_
      refine lv_istore (lv' := [(5, .int x22), (0, .ref (a 43)), (1, .int v1), (3, .int v3), (4, .int v4)]) hx hb dX9_ideal_61 hl (by decide) rfl (fun ls hl => ?_)
      refine lv_iconst (v := 0) hx hb dX9_ideal_63 (by decide) ?_
      refine lv_istore (lv' := [(6, .int (0 : Int32)), (5, .int x22), (0, .ref (a 43)), (1, .int v1), (3, .int v3), (4, .int v4)]) hx hb dX9_ideal_64 hl (by decide) rfl (fun ls hl => ?_)
      refine lv_iconst (v := 0) hx hb dX9_ideal_66 (by decide) ?_
      refine lv_istore (lv' := [(7, .int (0 : Int32)), (6, .int (0 : Int32)), (5, .int x22), (0, .ref (a 43)), (1, .int v1), (3, .int v3), (4, .int v4)]) hx hb dX9_ideal_67 hl (by decide) rfl (fun ls hl => ?_)
      exact k_X9_ideal_L69  F hr ih  fu v1 v3 v4 x22 (0 : Int32) (0 : Int32) S h _ _ _ hW hS (lv_sub hl [3, 4, 5, 6, 2, 1, 0] rfl)
set_option maxHeartbeats 4000000 in
set_option maxRecDepth 100000 in
theorem c_X9_ideal (l : Launch) (D : va_G) (a : Nat → Nat) (cs : zx_C) (fu : Nat) (p0 : Int32)  (S : St) (r9 : Int32) (S9 : St) (h : f_X9_ideal fu p0 S = some (r9, S9)) : Met l yX9_ideal (Cond.code yX9_ideal cX9_ideal 9 (some (.int)) :: zx_tb) ({ frames := 1, cells := 0, slots := 0, locals := 22 }) (zx_P D a cs [.ref (a 43), .int p0] S) (zx_Qi D a cs r9 S9) 0 0 (zx_A a) := by
  refine zx_met (own := RX9) (by decide) (Nat.le_of_ble_eq_true rfl) rfl ?_
  intro p e s m below meth c ls F hr hW hS hl
  have hl : lv_has ls 9 [(0, .ref (a 43)), (1, .int p0)] := hl
  obtain ⟨⟨hx, hb, hml, hown, hts⟩, hlk, hK, hJ, hN⟩ := id F
  unfold f_X9_ideal at h
  refine lv_aload_n hx hb dX9_ideal_0 rfl (lv_at hl 0 rfl) ?_
  refine lv_iload_n hx hb dX9_ideal_1 rfl (lv_at hl 1 rfl) ?_
  obtain ⟨r1, S2, h3, h⟩ := g_bd h
  refine zx_ci (zx_runV (q := (RX9, TX9, 35)) (As := [.int p0]) (rest := []) F hW (c_X9_isTable l D a cs p0  S r1 S2 h3) Y_X9_isTable wi_X9_isTable ws_X9_isTable wm_X9_84 ⟨rfl, rfl, Nat.le_of_ble_eq_true rfl, Nat.le_of_ble_eq_true rfl, Nat.le_of_ble_eq_true rfl, Nat.le_of_ble_eq_true rfl⟩ (by decide) zx_E43 rfl rfl hl.1 rfl (Nat.le_of_ble_eq_true rfl) dX9_ideal_2) hS (fun H locs hW hS => ?_)
  refine lv_if_ne (tgt := 10) hx hb dX9_ideal_5 (by decide) (fun c4 => ?_) (fun c4 => ?_)
  · have h := g_f c4 h
    refine lv_aload_n hx hb dX9_ideal_10 rfl (lv_at hl 0 rfl) ?_
    refine lv_iload_n hx hb dX9_ideal_11 rfl (lv_at hl 1 rfl) ?_
    obtain ⟨r5, S6, h7, h⟩ := g_bd h
    refine zx_ci (zx_runV (q := (RX9, TX9, 35)) (As := [.int p0]) (rest := []) F hW (c_X9_refusal l D a cs fu p0  S2 r5 S6 h7) Y_X9_refusal wi_X9_refusal ws_X9_refusal wm_X9_149 ⟨rfl, rfl, Nat.le_of_ble_eq_true rfl, Nat.le_of_ble_eq_true rfl, Nat.le_of_ble_eq_true rfl, Nat.le_of_ble_eq_true rfl⟩ (by decide) zx_E43 rfl rfl hl.1 rfl (Nat.le_of_ble_eq_true rfl) dX9_ideal_12) hS (fun H locs hW hS => ?_)
    refine lv_istore_n (lv' := [(2, .int r5), (0, .ref (a 43)), (1, .int p0)]) hx hb dX9_ideal_15 rfl hl (by decide) rfl (fun ls hl => ?_)
    refine lv_iload_n hx hb dX9_ideal_16 rfl (lv_at hl 0 rfl) ?_
    refine lv_if_ge (tgt := 22) hx hb dX9_ideal_17 (by decide) (fun c8 => ?_) (fun c8 => ?_)
    · have h := g_t c8 h
      refine lv_iconst (v := 1) hx hb dX9_ideal_22 (by decide) ?_
      refine lv_istore_n (lv' := [(3, .int (1 : Int32)), (2, .int r5), (0, .ref (a 43)), (1, .int p0)]) hx hb dX9_ideal_23 rfl hl (by decide) rfl (fun ls hl => ?_)
      refine lv_aload_n hx hb dX9_ideal_24 rfl (lv_at hl 2 rfl) ?_
      refine zx_get (C := RX9) (T := TX9) (N := 35) F hW wu_X9 (by decide) zx_E43 rfl 26 (by decide) wf_X9_64 rfl dX9_ideal_25 ?_
      refine lv_iconst (v := 0) hx hb dX9_ideal_28 (by decide) ?_
      refine lv_iconst (v := 1) hx hb dX9_ideal_29 (by decide) ?_
      obtain ⟨S9, eS9, h⟩ := g_pin h
      refine zx_iast (n := 1060) F hW hS (by decide) (fun f => zx_E60) (by unfold vp_in; decide) dX9_ideal_30 (fun H locs hW hS => ?_)
      have hW : zx_W D a cs S9 H := by rw [eS9]; exact hW
      refine lv_iconst (v := 0) hx hb dX9_ideal_31 (by decide) ?_
      refine lv_istore (lv' := [(4, .int (0 : Int32)), (3, .int (1 : Int32)), (2, .int r5), (0, .ref (a 43)), (1, .int p0)]) hx hb dX9_ideal_32 hl (by decide) rfl (fun ls hl => ?_)
      exact k_X9_ideal_L34  F hr   fu p0 (1 : Int32) (0 : Int32) S9 h _ _ _ hW hS (lv_sub hl [3, 4, 1, 0] rfl)
    · have h := g_f c8 h
      refine lv_iload_n hx hb dX9_ideal_20 rfl (lv_at hl 0 rfl) ?_
      exact zx_ri F hr hW hS h dX9_ideal_21
  · have h := g_t c4 h
    refine lv_iconst (v := -1) hx hb dX9_ideal_8 (by decide) ?_
    exact zx_ri F hr hW hS h dX9_ideal_9

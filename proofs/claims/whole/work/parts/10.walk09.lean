theorem Y_X9_readsShares : zx_Y yX9_readsShares cX9_readsShares 9 (some (.boolean)) 0 := ⟨wc_X9_readsShares, wn_X9, by decide, by decide, by decide +kernel⟩
set_option maxHeartbeats 4000000 in
set_option maxRecDepth 100000 in
theorem k_X9_readsShares_L151 {l : Launch} {D : va_G} {a : Nat → Nat} {cs : zx_C} {p : Program} {e : Env} {s : State} {m : MethodId} {below : List Frame} {meth : Method} {c : Code} {fu : Nat}   (F : zx_F D a cs p m c cX9_readsShares 9 s ([.ref (a 43)] : List Value).toArray RX9 meth) (hr : meth.sig.returnType = (some (.boolean))) {r9 : Int32} {S9 : St}    (v7 : Int32) (S : St) (h : f_X9_readsShares_L151 fu    v7 S = some (r9, S9)) (H : Heap) (locs : List Loc) (ls : Array Slot) (hW : zx_W D a cs S H) (hS : va_S (zx_A a) s.heap H locs) (hl : lv_has ls 9 [(0, .ref (a 43)), (7, .int v7)]) : W p l e ({ frames := 2, cells := 0, slots := 0, locals := 46 }) s m ([.ref (a 43)] : List Value).toArray below meth c H locs 0 0 (MQ below (zx_Qi D a cs r9 S9) ([.ref (a 43)] : List Value).toArray s 0 0 (zx_A a)) (F0 m 151 ls []) := by
  obtain ⟨⟨hx, hb, hml, hown, hts⟩, hlk, hK, hJ, hN⟩ := id F
  unfold f_X9_readsShares_L151 at h
  refine lv_aload_n hx hb dX9_readsShares_151 rfl (lv_at hl 0 rfl) ?_
  refine lv_iconst (v := 2) hx hb dX9_readsShares_152 (by decide) ?_
  refine lv_iload hx hb dX9_readsShares_153 (lv_at hl 1 rfl) ?_
  obtain ⟨r27, S28, h29, h⟩ := g_bd h
  refine zx_ci (zx_runV (q := (RX9, TX9, 35)) (As := [.int (2 : Int32), .int v7]) (rest := []) F hW (c_X9_fails l D a cs (2 : Int32) v7  S r27 S28 h29) Y_X9_fails wi_X9_fails ws_X9_fails wm_X9_176 ⟨rfl, rfl, Nat.le_of_ble_eq_true rfl, Nat.le_of_ble_eq_true rfl, Nat.le_of_ble_eq_true rfl, Nat.le_of_ble_eq_true rfl⟩ (by decide) zx_E43 rfl rfl hl.1 rfl (Nat.le_of_ble_eq_true rfl) dX9_readsShares_155) hS (fun H locs hW hS => ?_)
  obtain ⟨c30, h⟩ := g_ok h
  exact zx_rz F hr c30 hW hS h dX9_readsShares_158
set_option maxHeartbeats 4000000 in
set_option maxRecDepth 100000 in
theorem k_X9_readsShares_L71 {l : Launch} {D : va_G} {a : Nat → Nat} {cs : zx_C} {p : Program} {e : Env} {s : State} {m : MethodId} {below : List Frame} {meth : Method} {c : Code} {fu : Nat}   (F : zx_F D a cs p m c cX9_readsShares 9 s ([.ref (a 43)] : List Value).toArray RX9 meth) (hr : meth.sig.returnType = (some (.boolean))) {r9 : Int32} {S9 : St}    : ∀ (n : Nat) (v1 : Int32) (v4 : Int32) (v5 : Int32) (v6 : Int32) (v7 : Int32) (v8 : Int32) (S : St), f_X9_readsShares_L71 fu    n v1 v4 v5 v6 v7 v8 S = some (r9, S9) → ∀ (H : Heap) (locs : List Loc) (ls : Array Slot), zx_W D a cs S H → va_S (zx_A a) s.heap H locs → lv_has ls 9 [(0, .ref (a 43)), (1, .int v1), (4, .int v4), (5, .int v5), (6, .int v6), (7, .int v7), (8, .int v8)] → W p l e ({ frames := 2, cells := 0, slots := 0, locals := 46 }) s m ([.ref (a 43)] : List Value).toArray below meth c H locs 0 0 (MQ below (zx_Qi D a cs r9 S9) ([.ref (a 43)] : List Value).toArray s 0 0 (zx_A a)) (F0 m 71 ls []) := by
  obtain ⟨⟨hx, hb, hml, hown, hts⟩, hlk, hK, hJ, hN⟩ := id F
  intro n
  induction n with
  | zero =>
    intro v1 v4 v5 v6 v7 v8 S h
    exact absurd h (fun q => by cases q)
  | succ n ih =>
    intro v1 v4 v5 v6 v7 v8 S h H locs ls hW hS hl
    rw [f_X9_readsShares_L71_s] at h
    refine lv_iload hx hb dX9_readsShares_71 (lv_at hl 6 rfl) ?_
    refine lv_iload hx hb dX9_readsShares_73 (lv_at hl 2 rfl) ?_
    refine lv_icmp_ge (tgt := 185) hx hb dX9_readsShares_75 (by decide) (fun c8 => ?_) (fun c8 => ?_)
    · have h := g_t c8 h
      refine lv_iload hx hb dX9_readsShares_185 (lv_at hl 4 rfl) ?_
      refine lv_iload_n hx hb dX9_readsShares_187 rfl (lv_at hl 1 rfl) ?_
      refine lv_icmp_eq (tgt := 201) hx hb dX9_readsShares_188 (by decide) (fun c9 => ?_) (fun c9 => ?_)
      · have h := g_t c9 h
        refine lv_iconst (v := 1) hx hb dX9_readsShares_201 (by decide) ?_
        refine lv_goto (tgt := 206) hx hb dX9_readsShares_202 (by decide) ?_
        exact zx_rz F hr (by decide) hW hS h dX9_readsShares_206
      · have h := g_f c9 h
        refine lv_aload_n hx hb dX9_readsShares_191 rfl (lv_at hl 0 rfl) ?_
        refine lv_iconst (v := 3) hx hb dX9_readsShares_192 (by decide) ?_
        refine lv_iload hx hb dX9_readsShares_193 (lv_at hl 5 rfl) ?_
        obtain ⟨r10, S11, h12, h⟩ := g_bd h
        refine zx_ci (zx_runV (q := (RX9, TX9, 35)) (As := [.int (3 : Int32), .int v7]) (rest := []) F hW (c_X9_fails l D a cs (3 : Int32) v7  S r10 S11 h12) Y_X9_fails wi_X9_fails ws_X9_fails wm_X9_176 ⟨rfl, rfl, Nat.le_of_ble_eq_true rfl, Nat.le_of_ble_eq_true rfl, Nat.le_of_ble_eq_true rfl, Nat.le_of_ble_eq_true rfl⟩ (by decide) zx_E43 rfl rfl hl.1 rfl (Nat.le_of_ble_eq_true rfl) dX9_readsShares_195) hS (fun H locs hW hS => ?_)
        refine lv_if_eq (tgt := 205) hx hb dX9_readsShares_198 (by decide) (fun c13 => ?_) (fun c13 => ?_)
        · have h := g_t c13 h
          refine lv_iconst (v := 0) hx hb dX9_readsShares_205 (by decide) ?_
          exact zx_rz F hr (by decide) hW hS h dX9_readsShares_206
        · have h := g_f c13 h
          refine lv_iconst (v := 1) hx hb dX9_readsShares_201 (by decide) ?_
          refine lv_goto (tgt := 206) hx hb dX9_readsShares_202 (by decide) ?_
          exact zx_rz F hr (by decide) hW hS h dX9_readsShares_206
    · have h := g_f c8 h
      refine lv_aload_n hx hb dX9_readsShares_78 rfl (lv_at hl 0 rfl) ?_
      refine zx_get (C := RX9) (T := TX9) (N := 35) F hW wu_X9 (by decide) zx_E43 rfl 27 (by decide) wf_X9_173 rfl dX9_readsShares_79 ?_
      obtain ⟨x14, ex14, h⟩ := g_pin h
      refine zx_nm ex14 ?_
      refine lv_istore (lv' := [(7, .int x14), (0, .ref (a 43)), (1, .int v1), (4, .int v4), (5, .int v5), (6, .int v6), (8, .int v8)]) hx hb dX9_readsShares_82 hl (by decide) rfl (fun ls hl => ?_)
      refine lv_aload_n hx hb dX9_readsShares_84 rfl (lv_at hl 1 rfl) ?_
      refine lv_iconst (v := 1) hx hb dX9_readsShares_85 (by decide) ?_
      obtain ⟨r15, S16, h17, h⟩ := g_bd h
      refine zx_cl1 (zx_runV (q := (RX9, TX9, 35)) (As := [.int (1 : Int32)]) (rest := []) F hW (c_X9_number l D a cs fu (1 : Int32)  S r15 S16 h17) Y_X9_number wi_X9_number ws_X9_number wm_X9_181 ⟨rfl, rfl, Nat.le_of_ble_eq_true rfl, Nat.le_of_ble_eq_true rfl, Nat.le_of_ble_eq_true rfl, Nat.le_of_ble_eq_true rfl⟩ (by decide) zx_E43 rfl rfl hl.1 rfl (Nat.le_of_ble_eq_true rfl) dX9_readsShares_86) hS (fun H locs hW hS => ?_)
      refine lv_lstore_n (lv' := [(2, .long r15), (7, .int x14), (0, .ref (a 43)), (1, .int v1), (4, .int v4), (5, .int v5), (6, .int v6), (8, .int v8)]) hx hb dX9_readsShares_89 rfl hl (by decide) rfl (fun ls hl => ?_)
      refine lv_lload_n hx hb dX9_readsShares_90 rfl (lv_at hl 0 rfl) ?_
      refine lv_lconst (v := 0) hx hb dX9_readsShares_91 (by decide) ?_
      refine W.lcmp hx hb dX9_readsShares_92 ?_
      refine lv_if_ge (tgt := 98) hx hb dX9_readsShares_93 (by decide) (fun c18 => ?_) (fun c18 => ?_)
      · have h := g_t c18 h
        refine lv_lload_n hx hb dX9_readsShares_98 rfl (lv_at hl 0 rfl) ?_
        refine lv_iload hx hb dX9_readsShares_99 (lv_at hl 5 rfl) ?_
        refine lv_i2l hx hb dX9_readsShares_101 rfl ?_
        refine W.lcmp hx hb dX9_readsShares_102 ?_
        refine lv_if_gt (tgt := 114) hx hb dX9_readsShares_103 (by decide) (fun c19 => ?_) (fun c19 => ?_)
        · have h := g_t c19 h
          refine lv_lload_n hx hb dX9_readsShares_114 rfl (lv_at hl 0 rfl) ?_
          refine lv_l2i hx hb dX9_readsShares_115 rfl ?_
          obtain ⟨x20, ex20, h⟩ := g_pin h
          refine zx_nm ex20 ?_
          refine lv_istore (lv' := [(5, .int x20), (2, .long r15), (7, .int x14), (0, .ref (a 43)), (1, .int v1), (4, .int v4), (6, .int v6), (8, .int v8)]) hx hb dX9_readsShares_116 hl (by decide) rfl (fun ls hl => ?_)
          refine lv_aload_n hx hb dX9_readsShares_118 rfl (lv_at hl 3 rfl) ?_
          refine zx_get (C := RX9) (T := TX9) (N := 35) F hW wu_X9 (by decide) zx_E43 rfl 27 (by decide) wf_X9_173 rfl dX9_readsShares_119 ?_
          obtain ⟨x21, ex21, h⟩ := g_pin h
          refine zx_nm ex21 ?_
          refine lv_istore (lv' := [(7, .int x21), (5, .int x20), (2, .long r15), (0, .ref (a 43)), (1, .int v1), (4, .int v4), (6, .int v6), (8, .int v8)]) hx hb dX9_readsShares_122 hl (by decide) rfl (fun ls hl => ?_)
          refine lv_aload_n hx hb dX9_readsShares_124 rfl (lv_at hl 3 rfl) ?_
          refine lv_iconst (v := 2) hx hb dX9_readsShares_125 (by decide) ?_
          obtain ⟨r22, S23, h24, h⟩ := g_bd h
          refine zx_cl1 (zx_runV (q := (RX9, TX9, 35)) (As := [.int (2 : Int32)]) (rest := []) F hW (c_X9_number l D a cs fu (2 : Int32)  S16 r22 S23 h24) Y_X9_number wi_X9_number ws_X9_number wm_X9_181 ⟨rfl, rfl, Nat.le_of_ble_eq_true rfl, Nat.le_of_ble_eq_true rfl, Nat.le_of_ble_eq_true rfl, Nat.le_of_ble_eq_true rfl⟩ (by decide) zx_E43 rfl rfl hl.1 rfl (Nat.le_of_ble_eq_true rfl) dX9_readsShares_126) hS (fun H locs hW hS => ?_)
          refine lv_lstore_n (lv' := [(2, .long r22), (7, .int x21), (5, .int x20), (0, .ref (a 43)), (1, .int v1), (4, .int v4), (6, .int v6), (8, .int v8)]) hx hb dX9_readsShares_129 rfl hl (by decide) rfl (fun ls hl => ?_)
          refine lv_lload_n hx hb dX9_readsShares_130 rfl (lv_at hl 0 rfl) ?_
          refine lv_lconst (v := 0) hx hb dX9_readsShares_131 (by decide) ?_
          refine W.lcmp hx hb dX9_readsShares_132 ?_
          refine lv_if_ge (tgt := 138) hx hb dX9_readsShares_133 (by decide) (fun c25 => ?_) (fun c25 => ?_)
          · have h := g_t c25 h
            refine lv_lload_n hx hb dX9_readsShares_138 rfl (lv_at hl 0 rfl) ?_
            refine lv_lconst (v := 1) hx hb dX9_readsShares_139 (by decide) ?_
            refine W.lcmp hx hb dX9_readsShares_140 ?_
            refine lv_if_lt (tgt := 151) hx hb dX9_readsShares_141 (by decide) (fun c26 => ?_) (fun c26 => ?_)
            · have h := g_t c26 h
              exact k_X9_readsShares_L151  F hr   x21 S23 h _ _ _ hW hS (lv_sub hl [3, 1] rfl)
            · have h := g_f c26 h
              refine lv_lload_n hx hb dX9_readsShares_144 rfl (lv_at hl 0 rfl) ?_
              refine lv_iload_n hx hb dX9_readsShares_145 rfl (lv_at hl 4 rfl) ?_
              refine lv_i2l hx hb dX9_readsShares_146 rfl ?_
              refine W.lcmp hx hb dX9_readsShares_147 ?_
              refine lv_if_le (tgt := 159) hx hb dX9_readsShares_148 (by decide) (fun c31 => ?_) (fun c31 => ?_)
              · have h := g_t c31 h
                refine lv_aload_n hx hb dX9_readsShares_159 rfl (lv_at hl 3 rfl) ?_
                refine zx_get (C := RX9) (T := TX9) (N := 35) F hW wu_X9 (by decide) zx_E43 rfl 5 (by decide) wf_X9_19 rfl dX9_readsShares_160 ?_
                refine lv_sipush (v := 1536) hx hb dX9_readsShares_163 (by decide) ?_
                refine lv_iload hx hb dX9_readsShares_166 (lv_at hl 2 rfl) ?_
                refine lv_iadd hx hb dX9_readsShares_168 ?_
                refine lv_lload_n hx hb dX9_readsShares_169 rfl (lv_at hl 0 rfl) ?_
                refine lv_l2i hx hb dX9_readsShares_170 rfl ?_
                obtain ⟨c33, h⟩ := g_no h
                obtain ⟨S32, eS32, h⟩ := g_pin h
                refine zx_iast (n := 1792) F hW hS (by decide) (fun f => zx_E47) c33 dX9_readsShares_171 (fun H locs hW hS => ?_)
                have hW : zx_W D a cs S32 H := by rw [eS32]; exact hW
                refine lv_iload hx hb dX9_readsShares_172 (lv_at hl 6 rfl) ?_
                refine lv_lload_n hx hb dX9_readsShares_174 rfl (lv_at hl 0 rfl) ?_
                refine lv_l2i hx hb dX9_readsShares_175 rfl ?_
                refine lv_iadd hx hb dX9_readsShares_176 ?_
                obtain ⟨x34, ex34, h⟩ := g_pin h
                refine zx_nm ex34 ?_
                refine lv_istore (lv' := [(6, .int x34), (2, .long r22), (7, .int x21), (5, .int x20), (0, .ref (a 43)), (1, .int v1), (4, .int v4), (8, .int v8)]) hx hb dX9_readsShares_177 hl (by decide) rfl (fun ls hl => ?_)
                obtain ⟨x35, ex35, h⟩ := g_pin h
                refine lv_iinc (v := x35) (lv' := [(8, .int x35), (6, .int x34), (2, .long r22), (7, .int x21), (5, .int x20), (0, .ref (a 43)), (1, .int v1), (4, .int v4)]) hx hb dX9_readsShares_179 hl (k := 7) rfl (by rw [ex35]; rfl) (by decide) rfl (fun ls hl => ?_)
                refine lv_goto (tgt := 71) hx hb dX9_readsShares_182 (by decide) ?_
                exact ih v1 v4 x20 x34 x21 x35 S32 h _ _ _ hW hS (lv_sub hl [5, 6, 7, 4, 1, 3, 0] rfl)
              · have h := g_f c31 h
                exact k_X9_readsShares_L151  F hr   x21 S23 h _ _ _ hW hS (lv_sub hl [3, 1] rfl)
          · have h := g_f c25 h
            refine lv_iconst (v := 0) hx hb dX9_readsShares_136 (by decide) ?_
            exact zx_rz F hr (by decide) hW hS h dX9_readsShares_137
        · have h := g_f c19 h
          refine lv_aload_n hx hb dX9_readsShares_106 rfl (lv_at hl 2 rfl) ?_
          refine lv_iconst (v := 2) hx hb dX9_readsShares_107 (by decide) ?_
          refine lv_iload hx hb dX9_readsShares_108 (lv_at hl 1 rfl) ?_
          obtain ⟨r36, S37, h38, h⟩ := g_bd h
          refine zx_ci (zx_runV (q := (RX9, TX9, 35)) (As := [.int (2 : Int32), .int x14]) (rest := []) F hW (c_X9_fails l D a cs (2 : Int32) x14  S16 r36 S37 h38) Y_X9_fails wi_X9_fails ws_X9_fails wm_X9_176 ⟨rfl, rfl, Nat.le_of_ble_eq_true rfl, Nat.le_of_ble_eq_true rfl, Nat.le_of_ble_eq_true rfl, Nat.le_of_ble_eq_true rfl⟩ (by decide) zx_E43 rfl rfl hl.1 rfl (Nat.le_of_ble_eq_true rfl) dX9_readsShares_110) hS (fun H locs hW hS => ?_)
          obtain ⟨c39, h⟩ := g_ok h
          exact zx_rz F hr c39 hW hS h dX9_readsShares_113
      · have h := g_f c18 h
        refine lv_iconst (v := 0) hx hb dX9_readsShares_96 (by decide) ?_
        exact zx_rz F hr (by decide) hW hS h dX9_readsShares_97
set_option maxHeartbeats 4000000 in
set_option maxRecDepth 100000 in
theorem k_X9_readsShares_L33 {l : Launch} {D : va_G} {a : Nat → Nat} {cs : zx_C} {p : Program} {e : Env} {s : State} {m : MethodId} {below : List Frame} {meth : Method} {c : Code} {fu : Nat}   (F : zx_F D a cs p m c cX9_readsShares 9 s ([.ref (a 43)] : List Value).toArray RX9 meth) (hr : meth.sig.returnType = (some (.boolean))) {r9 : Int32} {S9 : St}    : ∀ (n : Nat) (v1 : Int32) (v4 : Int32) (v5 : Int32) (S : St), f_X9_readsShares_L33 fu    n v1 v4 v5 S = some (r9, S9) → ∀ (H : Heap) (locs : List Loc) (ls : Array Slot), zx_W D a cs S H → va_S (zx_A a) s.heap H locs → lv_has ls 9 [(0, .ref (a 43)), (1, .int v1), (4, .int v4), (5, .int v5)] → W p l e ({ frames := 2, cells := 0, slots := 0, locals := 46 }) s m ([.ref (a 43)] : List Value).toArray below meth c H locs 0 0 (MQ below (zx_Qi D a cs r9 S9) ([.ref (a 43)] : List Value).toArray s 0 0 (zx_A a)) (F0 m 33 ls []) := by
  obtain ⟨⟨hx, hb, hml, hown, hts⟩, hlk, hK, hJ, hN⟩ := id F
  intro n
  induction n with
  | zero =>
    intro v1 v4 v5 S h
    exact absurd h (fun q => by cases q)
  | succ n ih =>
    intro v1 v4 v5 S h H locs ls hW hS hl
    rw [f_X9_readsShares_L33_s] at h
    refine lv_iload hx hb dX9_readsShares_33 (lv_at hl 3 rfl) ?_
    refine lv_sipush (v := 256) hx hb dX9_readsShares_35 (by decide) ?_
    refine lv_icmp_ge (tgt := 59) hx hb dX9_readsShares_38 (by decide) (fun c7 => ?_) (fun c7 => ?_)
    · have h := g_t c7 h
      refine lv_iconst (v := -1) hx hb dX9_readsShares_59 (by decide) ?_
      refine lv_istore (lv' := [(5, .int (-1 : Int32)), (0, .ref (a 43)), (1, .int v1), (4, .int v4)]) hx hb dX9_readsShares_60 hl (by decide) rfl (fun ls hl => ?_)
      refine lv_iconst (v := 0) hx hb dX9_readsShares_62 (by decide) ?_
      refine lv_istore (lv' := [(6, .int (0 : Int32)), (5, .int (-1 : Int32)), (0, .ref (a 43)), (1, .int v1), (4, .int v4)]) hx hb dX9_readsShares_63 hl (by decide) rfl (fun ls hl => ?_)
      refine lv_iconst (v := 0) hx hb dX9_readsShares_65 (by decide) ?_
      refine lv_istore (lv' := [(7, .int (0 : Int32)), (6, .int (0 : Int32)), (5, .int (-1 : Int32)), (0, .ref (a 43)), (1, .int v1), (4, .int v4)]) hx hb dX9_readsShares_66 hl (by decide) rfl (fun ls hl => ?_)
      refine lv_iconst (v := 0) hx hb dX9_readsShares_68 (by decide) ?_
      refine lv_istore (lv' := [(8, .int (0 : Int32)), (7, .int (0 : Int32)), (6, .int (0 : Int32)), (5, .int (-1 : Int32)), (0, .ref (a 43)), (1, .int v1), (4, .int v4)]) hx hb dX9_readsShares_69 hl (by decide) rfl (fun ls hl => ?_)
      exact k_X9_readsShares_L71  F hr   fu v1 v4 (-1 : Int32) (0 : Int32) (0 : Int32) (0 : Int32) S h _ _ _ hW hS (lv_sub hl [4, 5, 6, 3, 2, 1, 0] rfl)
    · have h := g_f c7 h
      refine lv_aload_n hx hb dX9_readsShares_41 rfl (lv_at hl 0 rfl) ?_
      refine zx_get (C := RX9) (T := TX9) (N := 35) F hW wu_X9 (by decide) zx_E43 rfl 5 (by decide) wf_X9_19 rfl dX9_readsShares_42 ?_
      refine lv_sipush (v := 1536) hx hb dX9_readsShares_45 (by decide) ?_
      refine lv_iload hx hb dX9_readsShares_48 (lv_at hl 3 rfl) ?_
      refine lv_iadd hx hb dX9_readsShares_50 ?_
      refine lv_iconst (v := 0) hx hb dX9_readsShares_51 (by decide) ?_
      obtain ⟨c41, h⟩ := g_no h
      obtain ⟨S40, eS40, h⟩ := g_pin h
      refine zx_iast (n := 1792) F hW hS (by decide) (fun f => zx_E47) c41 dX9_readsShares_52 (fun H locs hW hS => ?_)
      have hW : zx_W D a cs S40 H := by rw [eS40]; exact hW
      obtain ⟨x42, ex42, h⟩ := g_pin h
      refine lv_iinc (v := x42) (lv' := [(5, .int x42), (0, .ref (a 43)), (1, .int v1), (4, .int v4)]) hx hb dX9_readsShares_53 hl (k := 3) rfl (by rw [ex42]; rfl) (by decide) rfl (fun ls hl => ?_)
      refine lv_goto (tgt := 33) hx hb dX9_readsShares_56 (by decide) ?_
      exact ih v1 v4 x42 S40 h _ _ _ hW hS (lv_sub hl [1, 2, 3, 0] rfl)
set_option maxHeartbeats 4000000 in
set_option maxRecDepth 100000 in
theorem c_X9_readsShares (l : Launch) (D : va_G) (a : Nat → Nat) (cs : zx_C) (fu : Nat)   (S : St) (r9 : Int32) (S9 : St) (h : f_X9_readsShares fu  S = some (r9, S9)) : Met l yX9_readsShares (Cond.code yX9_readsShares cX9_readsShares 9 (some (.boolean)) :: zx_tb) ({ frames := 2, cells := 0, slots := 0, locals := 46 }) (zx_P D a cs [.ref (a 43)] S) (zx_Qi D a cs r9 S9) 0 0 (zx_A a) := by
  refine zx_met (own := RX9) (by decide) (Nat.le_of_ble_eq_true rfl) rfl ?_
  intro p e s m below meth c ls F hr hW hS hl
  have hl : lv_has ls 9 [(0, .ref (a 43))] := hl
  obtain ⟨⟨hx, hb, hml, hown, hts⟩, hlk, hK, hJ, hN⟩ := id F
  unfold f_X9_readsShares at h
  refine lv_iconst (v := 1) hx hb dX9_readsShares_0 (by decide) ?_
  refine lv_aload_n hx hb dX9_readsShares_1 rfl (lv_at hl 0 rfl) ?_
  refine zx_get (C := RX9) (T := TX9) (N := 35) F hW wu_X9 (by decide) zx_E43 rfl 4 (by decide) wf_X9_16 rfl dX9_readsShares_2 ?_
  refine lv_bipush (v := 6) hx hb dX9_readsShares_5 (by decide) ?_
  refine zx_iald (n := 7) F hW (by decide) zx_E46 (by unfold vp_in; decide) dX9_readsShares_7 ?_
  refine zx_nm (z := (S 46 6)) rfl ?_
  refine lv_ishl hx hb dX9_readsShares_8 ?_
  obtain ⟨x1, ex1, h⟩ := g_pin h
  refine zx_nm ex1 ?_
  refine lv_istore_n (lv' := [(1, .int x1), (0, .ref (a 43))]) hx hb dX9_readsShares_9 rfl hl (by decide) rfl (fun ls hl => ?_)
  refine lv_aload_n hx hb dX9_readsShares_10 rfl (lv_at hl 1 rfl) ?_
  refine lv_iconst (v := 1) hx hb dX9_readsShares_11 (by decide) ?_
  obtain ⟨r2, S3, h4, h⟩ := g_bd h
  refine zx_cl1 (zx_runV (q := (RX9, TX9, 35)) (As := [.int (1 : Int32)]) (rest := []) F hW (c_X9_number l D a cs fu (1 : Int32)  S r2 S3 h4) Y_X9_number wi_X9_number ws_X9_number wm_X9_181 ⟨rfl, rfl, Nat.le_of_ble_eq_true rfl, Nat.le_of_ble_eq_true rfl, Nat.le_of_ble_eq_true rfl, Nat.le_of_ble_eq_true rfl⟩ (by decide) zx_E43 rfl rfl hl.1 rfl (Nat.le_of_ble_eq_true rfl) dX9_readsShares_12) hS (fun H locs hW hS => ?_)
  refine lv_lstore_n (lv' := [(2, .long r2), (1, .int x1), (0, .ref (a 43))]) hx hb dX9_readsShares_15 rfl hl (by decide) rfl (fun ls hl => ?_)
  refine lv_lload_n hx hb dX9_readsShares_16 rfl (lv_at hl 0 rfl) ?_
  refine lv_lconst (v := 0) hx hb dX9_readsShares_17 (by decide) ?_
  refine W.lcmp hx hb dX9_readsShares_18 ?_
  refine lv_if_ge (tgt := 24) hx hb dX9_readsShares_19 (by decide) (fun c5 => ?_) (fun c5 => ?_)
  · have h := g_t c5 h
    refine lv_lload_n hx hb dX9_readsShares_24 rfl (lv_at hl 0 rfl) ?_
    refine lv_l2i hx hb dX9_readsShares_25 rfl ?_
    refine lv_iconst (v := 1) hx hb dX9_readsShares_26 (by decide) ?_
    refine lv_iadd hx hb dX9_readsShares_27 ?_
    obtain ⟨x6, ex6, h⟩ := g_pin h
    refine zx_nm ex6 ?_
    refine lv_istore (lv' := [(4, .int x6), (2, .long r2), (1, .int x1), (0, .ref (a 43))]) hx hb dX9_readsShares_28 hl (by decide) rfl (fun ls hl => ?_)
    refine lv_iconst (v := 0) hx hb dX9_readsShares_30 (by decide) ?_
    refine lv_istore (lv' := [(5, .int (0 : Int32)), (4, .int x6), (2, .long r2), (1, .int x1), (0, .ref (a 43))]) hx hb dX9_readsShares_31 hl (by decide) rfl (fun ls hl => ?_)
    exact k_X9_readsShares_L33  F hr   fu x1 x6 (0 : Int32) S3 h _ _ _ hW hS (lv_sub hl [4, 3, 1, 0] rfl)
  · have h := g_f c5 h
    refine lv_iconst (v := 0) hx hb dX9_readsShares_22 (by decide) ?_
    exact zx_rz F hr (by decide) hW hS h dX9_readsShares_23
theorem Y_X9_reads : zx_Y yX9_reads cX9_reads 5 (some (.boolean)) 0 := ⟨wc_X9_reads, wn_X9, by decide, by decide, by decide +kernel⟩
set_option maxHeartbeats 4000000 in
set_option maxRecDepth 100000 in
theorem k_X9_reads_L113 {l : Launch} {D : va_G} {a : Nat → Nat} {cs : zx_C} {p : Program} {e : Env} {s : State} {m : MethodId} {below : List Frame} {meth : Method} {c : Code} {fu : Nat}   (F : zx_F D a cs p m c cX9_reads 5 s ([.ref (a 43)] : List Value).toArray RX9 meth) (hr : meth.sig.returnType = (some (.boolean))) {r9 : Int32} {S9 : St}     (S : St) (h : f_X9_reads_L113 fu     S = some (r9, S9)) (H : Heap) (locs : List Loc) (ls : Array Slot) (hW : zx_W D a cs S H) (hS : va_S (zx_A a) s.heap H locs) (hl : lv_has ls 5 [(0, .ref (a 43))]) : W p l e ({ frames := 4, cells := 0, slots := 0, locals := 103 }) s m ([.ref (a 43)] : List Value).toArray below meth c H locs 0 0 (MQ below (zx_Qi D a cs r9 S9) ([.ref (a 43)] : List Value).toArray s 0 0 (zx_A a)) (F0 m 113 ls []) := by
  obtain ⟨⟨hx, hb, hml, hown, hts⟩, hlk, hK, hJ, hN⟩ := id F
  unfold f_X9_reads_L113 at h
  refine lv_aload_n hx hb dX9_reads_113 rfl (lv_at hl 0 rfl) ?_
  refine lv_iconst (v := 2) hx hb dX9_reads_114 (by decide) ?_
  refine lv_iconst (v := 2) hx hb dX9_reads_115 (by decide) ?_
  obtain ⟨r22, S23, h24, h⟩ := g_bd h
  refine zx_ci (zx_runV (q := (RX9, TX9, 35)) (As := [.int (2 : Int32), .int (2 : Int32)]) (rest := []) F hW (c_X9_fails l D a cs (2 : Int32) (2 : Int32)  S r22 S23 h24) Y_X9_fails wi_X9_fails ws_X9_fails wm_X9_176 ⟨rfl, rfl, Nat.le_of_ble_eq_true rfl, Nat.le_of_ble_eq_true rfl, Nat.le_of_ble_eq_true rfl, Nat.le_of_ble_eq_true rfl⟩ (by decide) zx_E43 rfl rfl hl.1 rfl (Nat.le_of_ble_eq_true rfl) dX9_reads_116) hS (fun H locs hW hS => ?_)
  obtain ⟨c25, h⟩ := g_ok h
  exact zx_rz F hr c25 hW hS h dX9_reads_119
set_option maxHeartbeats 4000000 in
set_option maxRecDepth 100000 in
theorem k_X9_reads_L297 {l : Launch} {D : va_G} {a : Nat → Nat} {cs : zx_C} {p : Program} {e : Env} {s : State} {m : MethodId} {below : List Frame} {meth : Method} {c : Code} {fu : Nat}   (F : zx_F D a cs p m c cX9_reads 5 s ([.ref (a 43)] : List Value).toArray RX9 meth) (hr : meth.sig.returnType = (some (.boolean))) {r9 : Int32} {S9 : St}    (v3 : Int32) (S : St) (h : f_X9_reads_L297 fu    v3 S = some (r9, S9)) (H : Heap) (locs : List Loc) (ls : Array Slot) (hW : zx_W D a cs S H) (hS : va_S (zx_A a) s.heap H locs) (hl : lv_has ls 5 [(0, .ref (a 43)), (3, .int v3)]) : W p l e ({ frames := 4, cells := 0, slots := 0, locals := 103 }) s m ([.ref (a 43)] : List Value).toArray below meth c H locs 0 0 (MQ below (zx_Qi D a cs r9 S9) ([.ref (a 43)] : List Value).toArray s 0 0 (zx_A a)) (F0 m 297 ls []) := by
  obtain ⟨⟨hx, hb, hml, hown, hts⟩, hlk, hK, hJ, hN⟩ := id F
  unfold f_X9_reads_L297 at h
  refine lv_aload_n hx hb dX9_reads_297 rfl (lv_at hl 0 rfl) ?_
  refine lv_iconst (v := 4) hx hb dX9_reads_298 (by decide) ?_
  refine lv_iload_n hx hb dX9_reads_299 rfl (lv_at hl 1 rfl) ?_
  obtain ⟨r76, S77, h78, h⟩ := g_bd h
  refine zx_ci (zx_runV (q := (RX9, TX9, 35)) (As := [.int (4 : Int32), .int v3]) (rest := []) F hW (c_X9_fails l D a cs (4 : Int32) v3  S r76 S77 h78) Y_X9_fails wi_X9_fails ws_X9_fails wm_X9_176 ⟨rfl, rfl, Nat.le_of_ble_eq_true rfl, Nat.le_of_ble_eq_true rfl, Nat.le_of_ble_eq_true rfl, Nat.le_of_ble_eq_true rfl⟩ (by decide) zx_E43 rfl rfl hl.1 rfl (Nat.le_of_ble_eq_true rfl) dX9_reads_300) hS (fun H locs hW hS => ?_)
  obtain ⟨c79, h⟩ := g_ok h
  exact zx_rz F hr c79 hW hS h dX9_reads_303
set_option maxHeartbeats 4000000 in
set_option maxRecDepth 100000 in
theorem k_X9_reads_L334 {l : Launch} {D : va_G} {a : Nat → Nat} {cs : zx_C} {p : Program} {e : Env} {s : State} {m : MethodId} {below : List Frame} {meth : Method} {c : Code} {fu : Nat}   (F : zx_F D a cs p m c cX9_reads 5 s ([.ref (a 43)] : List Value).toArray RX9 meth) (hr : meth.sig.returnType = (some (.boolean))) {r9 : Int32} {S9 : St} {K209 : Int32 → St → Option (Int32 × St)} (hK209 : ∀ (v4 : Int32) (S : St), K209 v4 S = some (r9, S9) → ∀ (H : Heap) (locs : List Loc) (ls : Array Slot), zx_W D a cs S H → va_S (zx_A a) s.heap H locs → lv_has ls 5 [(0, .ref (a 43)), (4, .int v4)] → W p l e ({ frames := 4, cells := 0, slots := 0, locals := 103 }) s m ([.ref (a 43)] : List Value).toArray below meth c H locs 0 0 (MQ below (zx_Qi D a cs r9 S9) ([.ref (a 43)] : List Value).toArray s 0 0 (zx_A a)) (F0 m 209 ls []))  (v4 : Int32) (t0 : Int32) (t1 : Int32) (S : St) (h : f_X9_reads_L334 fu  K209  v4 t0 t1 S = some (r9, S9)) (H : Heap) (locs : List Loc) (ls : Array Slot) (hW : zx_W D a cs S H) (hS : va_S (zx_A a) s.heap H locs) (hl : lv_has ls 5 [(0, .ref (a 43)), (4, .int v4)]) : W p l e ({ frames := 4, cells := 0, slots := 0, locals := 103 }) s m ([.ref (a 43)] : List Value).toArray below meth c H locs 0 0 (MQ below (zx_Qi D a cs r9 S9) ([.ref (a 43)] : List Value).toArray s 0 0 (zx_A a)) (F0 m 334 ls [.int t0, .int t1, .ref (a 58)]) := by
  obtain ⟨⟨hx, hb, hml, hown, hts⟩, hlk, hK, hJ, hN⟩ := id F
  unfold f_X9_reads_L334 at h
  obtain ⟨c83, h⟩ := g_no h
  obtain ⟨S82, eS82, h⟩ := g_pin h
  refine zx_iast (n := 2) F hW hS (by decide) (fun f => zx_E58) c83 dX9_reads_334 (fun H locs hW hS => ?_)
  have hW : zx_W D a cs S82 H := by rw [eS82]; exact hW
  obtain ⟨x84, ex84, h⟩ := g_pin h
  refine lv_iinc (v := x84) (lv' := [(4, .int x84), (0, .ref (a 43))]) hx hb dX9_reads_335 hl (k := 1) rfl (by rw [ex84]; rfl) (by decide) rfl (fun ls hl => ?_)
  refine lv_goto (tgt := 209) hx hb dX9_reads_338 (by decide) ?_
  exact hK209 x84 S82 h _ _ _ hW hS (lv_sub hl [1, 0] rfl)
set_option maxHeartbeats 4000000 in
set_option maxRecDepth 100000 in
theorem k_X9_reads_L304 {l : Launch} {D : va_G} {a : Nat → Nat} {cs : zx_C} {p : Program} {e : Env} {s : State} {m : MethodId} {below : List Frame} {meth : Method} {c : Code} {fu : Nat}   (F : zx_F D a cs p m c cX9_reads 5 s ([.ref (a 43)] : List Value).toArray RX9 meth) (hr : meth.sig.returnType = (some (.boolean))) {r9 : Int32} {S9 : St} {K209 : Int32 → St → Option (Int32 × St)} (hK209 : ∀ (v4 : Int32) (S : St), K209 v4 S = some (r9, S9) → ∀ (H : Heap) (locs : List Loc) (ls : Array Slot), zx_W D a cs S H → va_S (zx_A a) s.heap H locs → lv_has ls 5 [(0, .ref (a 43)), (4, .int v4)] → W p l e ({ frames := 4, cells := 0, slots := 0, locals := 103 }) s m ([.ref (a 43)] : List Value).toArray below meth c H locs 0 0 (MQ below (zx_Qi D a cs r9 S9) ([.ref (a 43)] : List Value).toArray s 0 0 (zx_A a)) (F0 m 209 ls []))  (v1 : Int64) (v4 : Int32) (S : St) (h : f_X9_reads_L304 fu  K209  v1 v4 S = some (r9, S9)) (H : Heap) (locs : List Loc) (ls : Array Slot) (hW : zx_W D a cs S H) (hS : va_S (zx_A a) s.heap H locs) (hl : lv_has ls 5 [(0, .ref (a 43)), (1, .long v1), (4, .int v4)]) : W p l e ({ frames := 4, cells := 0, slots := 0, locals := 103 }) s m ([.ref (a 43)] : List Value).toArray below meth c H locs 0 0 (MQ below (zx_Qi D a cs r9 S9) ([.ref (a 43)] : List Value).toArray s 0 0 (zx_A a)) (F0 m 304 ls []) := by
  obtain ⟨⟨hx, hb, hml, hown, hts⟩, hlk, hK, hJ, hN⟩ := id F
  unfold f_X9_reads_L304 at h
  refine lv_aload_n hx hb dX9_reads_304 rfl (lv_at hl 0 rfl) ?_
  refine zx_get (C := RX9) (T := TX9) (N := 35) F hW wu_X9 (by decide) zx_E43 rfl 24 (by decide) wf_X9_58 rfl dX9_reads_305 ?_
  refine lv_iload hx hb dX9_reads_308 (lv_at hl 2 rfl) ?_
  refine lv_aload_n hx hb dX9_reads_310 rfl (lv_at hl 0 rfl) ?_
  refine zx_get (C := RX9) (T := TX9) (N := 35) F hW wu_X9 (by decide) zx_E43 rfl 28 (by decide) wf_X9_187 rfl dX9_reads_311 ?_
  refine lv_if_ne (tgt := 332) hx hb dX9_reads_314 (by decide) (fun c81 => ?_) (fun c81 => ?_)
  · have h := g_f c81 h
    refine lv_lload_n hx hb dX9_reads_332 rfl (lv_at hl 1 rfl) ?_
    refine lv_l2i hx hb dX9_reads_333 rfl ?_
    exact k_X9_reads_L334  F hr hK209  v4 ((v1).toInt32) v4 S h _ _ _ hW hS (lv_sub hl [0, 2] rfl)
  · have h := g_t c81 h
    refine lv_lload_n hx hb dX9_reads_317 rfl (lv_at hl 1 rfl) ?_
    refine lv_l2i hx hb dX9_reads_318 rfl ?_
    refine lv_iconst (v := 1) hx hb dX9_reads_319 (by decide) ?_
    refine lv_aload_n hx hb dX9_reads_320 rfl (lv_at hl 0 rfl) ?_
    refine zx_get (C := RX9) (T := TX9) (N := 35) F hW wu_X9 (by decide) zx_E43 rfl 4 (by decide) wf_X9_16 rfl dX9_reads_321 ?_
    refine lv_bipush (v := 6) hx hb dX9_reads_324 (by decide) ?_
    refine zx_iald (n := 7) F hW (by decide) zx_E46 (by unfold vp_in; decide) dX9_reads_326 ?_
    refine zx_nm (z := (S 46 6)) rfl ?_
    refine lv_ishl hx hb dX9_reads_327 ?_
    refine lv_iadd hx hb dX9_reads_328 ?_
    refine lv_goto (tgt := 334) hx hb dX9_reads_329 (by decide) ?_
    exact k_X9_reads_L334  F hr hK209  v4 (((v1).toInt32) + ((1 : Int32) <<< ((S 46 6) &&& 31))) v4 S h _ _ _ hW hS (lv_sub hl [0, 2] rfl)
set_option maxHeartbeats 4000000 in
set_option maxRecDepth 100000 in
theorem k_X9_reads_L245 {l : Launch} {D : va_G} {a : Nat → Nat} {cs : zx_C} {p : Program} {e : Env} {s : State} {m : MethodId} {below : List Frame} {meth : Method} {c : Code} {fu : Nat}   (F : zx_F D a cs p m c cX9_reads 5 s ([.ref (a 43)] : List Value).toArray RX9 meth) (hr : meth.sig.returnType = (some (.boolean))) {r9 : Int32} {S9 : St} {K209 : Int32 → St → Option (Int32 × St)} (hK209 : ∀ (v4 : Int32) (S : St), K209 v4 S = some (r9, S9) → ∀ (H : Heap) (locs : List Loc) (ls : Array Slot), zx_W D a cs S H → va_S (zx_A a) s.heap H locs → lv_has ls 5 [(0, .ref (a 43)), (4, .int v4)] → W p l e ({ frames := 4, cells := 0, slots := 0, locals := 103 }) s m ([.ref (a 43)] : List Value).toArray below meth c H locs 0 0 (MQ below (zx_Qi D a cs r9 S9) ([.ref (a 43)] : List Value).toArray s 0 0 (zx_A a)) (F0 m 209 ls []))  (v3 : Int32) (v4 : Int32) (t0 : Int32) (S : St) (h : f_X9_reads_L245 fu  K209  v3 v4 t0 S = some (r9, S9)) (H : Heap) (locs : List Loc) (ls : Array Slot) (hW : zx_W D a cs S H) (hS : va_S (zx_A a) s.heap H locs) (hl : lv_has ls 5 [(0, .ref (a 43)), (3, .int v3), (4, .int v4)]) : W p l e ({ frames := 4, cells := 0, slots := 0, locals := 103 }) s m ([.ref (a 43)] : List Value).toArray below meth c H locs 0 0 (MQ below (zx_Qi D a cs r9 S9) ([.ref (a 43)] : List Value).toArray s 0 0 (zx_A a)) (F0 m 245 ls [.int t0, .ref (a 43)]) := by
  obtain ⟨⟨hx, hb, hml, hown, hts⟩, hlk, hK, hJ, hN⟩ := id F
  unfold f_X9_reads_L245 at h
  obtain ⟨r70, S71, h72, h⟩ := g_bd h
  refine zx_cl1 (zx_runV (q := (RX9, TX9, 35)) (As := [.int t0]) (rest := []) F hW (c_X9_number l D a cs fu t0  S r70 S71 h72) Y_X9_number wi_X9_number ws_X9_number wm_X9_181 ⟨rfl, rfl, Nat.le_of_ble_eq_true rfl, Nat.le_of_ble_eq_true rfl, Nat.le_of_ble_eq_true rfl, Nat.le_of_ble_eq_true rfl⟩ (by decide) zx_E43 rfl rfl hl.1 rfl (Nat.le_of_ble_eq_true rfl) dX9_reads_245) hS (fun H locs hW hS => ?_)
  refine lv_lstore_n (lv' := [(1, .long r70), (0, .ref (a 43)), (3, .int v3), (4, .int v4)]) hx hb dX9_reads_248 rfl hl (by decide) rfl (fun ls hl => ?_)
  refine lv_lload_n hx hb dX9_reads_249 rfl (lv_at hl 0 rfl) ?_
  refine lv_lconst (v := 0) hx hb dX9_reads_250 (by decide) ?_
  refine W.lcmp hx hb dX9_reads_251 ?_
  refine lv_if_ge (tgt := 257) hx hb dX9_reads_252 (by decide) (fun c73 => ?_) (fun c73 => ?_)
  · have h := g_t c73 h
    refine lv_aload_n hx hb dX9_reads_257 rfl (lv_at hl 1 rfl) ?_
    refine zx_get (C := RX9) (T := TX9) (N := 35) F hW wu_X9 (by decide) zx_E43 rfl 28 (by decide) wf_X9_187 rfl dX9_reads_258 ?_
    refine lv_if_ne (tgt := 281) hx hb dX9_reads_261 (by decide) (fun c74 => ?_) (fun c74 => ?_)
    · have h := g_f c74 h
      refine lv_lload_n hx hb dX9_reads_281 rfl (lv_at hl 0 rfl) ?_
      refine lv_ldc2 (v := 8388608) hx hb hown (hts _ wl_X9_210) dX9_reads_282 ?_
      refine W.lcmp hx hb dX9_reads_285 ?_
      refine lv_if_lt (tgt := 297) hx hb dX9_reads_286 (by decide) (fun c75 => ?_) (fun c75 => ?_)
      · have h := g_t c75 h
        exact k_X9_reads_L297  F hr   v3 S71 h _ _ _ hW hS (lv_sub hl [1, 2] rfl)
      · have h := g_f c75 h
        refine lv_lload_n hx hb dX9_reads_289 rfl (lv_at hl 0 rfl) ?_
        refine lv_ldc2 (v := 2147483647) hx hb hown (hts _ wl_X9_212) dX9_reads_290 ?_
        refine W.lcmp hx hb dX9_reads_293 ?_
        refine lv_if_le (tgt := 304) hx hb dX9_reads_294 (by decide) (fun c80 => ?_) (fun c80 => ?_)
        · have h := g_t c80 h
          exact k_X9_reads_L304  F hr hK209  r70 v4 S71 h _ _ _ hW hS (lv_sub hl [1, 0, 3] rfl)
        · have h := g_f c80 h
          exact k_X9_reads_L297  F hr   v3 S71 h _ _ _ hW hS (lv_sub hl [1, 2] rfl)
    · have h := g_t c74 h
      refine lv_lload_n hx hb dX9_reads_264 rfl (lv_at hl 0 rfl) ?_
      refine lv_lconst (v := 1) hx hb dX9_reads_265 (by decide) ?_
      refine lv_aload_n hx hb dX9_reads_266 rfl (lv_at hl 1 rfl) ?_
      refine zx_get (C := RX9) (T := TX9) (N := 35) F hW wu_X9 (by decide) zx_E43 rfl 4 (by decide) wf_X9_16 rfl dX9_reads_267 ?_
      refine lv_bipush (v := 6) hx hb dX9_reads_270 (by decide) ?_
      refine zx_iald (n := 7) F hW (by decide) zx_E46 (by unfold vp_in; decide) dX9_reads_272 ?_
      refine zx_nm (z := (S71 46 6)) rfl ?_
      refine lv_lshl hx hb dX9_reads_273 rfl ?_
      refine W.lcmp hx hb dX9_reads_274 ?_
      refine lv_if_lt (tgt := 304) hx hb dX9_reads_275 (by decide) (fun c85 => ?_) (fun c85 => ?_)
      · have h := g_t c85 h
        exact k_X9_reads_L304  F hr hK209  r70 v4 S71 h _ _ _ hW hS (lv_sub hl [1, 0, 3] rfl)
      · have h := g_f c85 h
        refine lv_goto (tgt := 297) hx hb dX9_reads_278 (by decide) ?_
        exact k_X9_reads_L297  F hr   v3 S71 h _ _ _ hW hS (lv_sub hl [1, 2] rfl)
  · have h := g_f c73 h
    refine lv_iconst (v := 0) hx hb dX9_reads_255 (by decide) ?_
    exact zx_rz F hr (by decide) hW hS h dX9_reads_256
set_option maxHeartbeats 4000000 in
set_option maxRecDepth 100000 in
theorem k_X9_reads_L224 {l : Launch} {D : va_G} {a : Nat → Nat} {cs : zx_C} {p : Program} {e : Env} {s : State} {m : MethodId} {below : List Frame} {meth : Method} {c : Code} {fu : Nat}   (F : zx_F D a cs p m c cX9_reads 5 s ([.ref (a 43)] : List Value).toArray RX9 meth) (hr : meth.sig.returnType = (some (.boolean))) {r9 : Int32} {S9 : St} {K209 : Int32 → St → Option (Int32 × St)} (hK209 : ∀ (v4 : Int32) (S : St), K209 v4 S = some (r9, S9) → ∀ (H : Heap) (locs : List Loc) (ls : Array Slot), zx_W D a cs S H → va_S (zx_A a) s.heap H locs → lv_has ls 5 [(0, .ref (a 43)), (4, .int v4)] → W p l e ({ frames := 4, cells := 0, slots := 0, locals := 103 }) s m ([.ref (a 43)] : List Value).toArray below meth c H locs 0 0 (MQ below (zx_Qi D a cs r9 S9) ([.ref (a 43)] : List Value).toArray s 0 0 (zx_A a)) (F0 m 209 ls []))  (v4 : Int32) (t0 : Int32) (t1 : Int32) (S : St) (h : f_X9_reads_L224 fu  K209  v4 t0 t1 S = some (r9, S9)) (H : Heap) (locs : List Loc) (ls : Array Slot) (hW : zx_W D a cs S H) (hS : va_S (zx_A a) s.heap H locs) (hl : lv_has ls 5 [(0, .ref (a 43)), (4, .int v4)]) : W p l e ({ frames := 4, cells := 0, slots := 0, locals := 103 }) s m ([.ref (a 43)] : List Value).toArray below meth c H locs 0 0 (MQ below (zx_Qi D a cs r9 S9) ([.ref (a 43)] : List Value).toArray s 0 0 (zx_A a)) (F0 m 224 ls [.int t0, .int t1]) := by
  obtain ⟨⟨hx, hb, hml, hown, hts⟩, hlk, hK, hJ, hN⟩ := id F
  unfold f_X9_reads_L224 at h
  refine lv_icmp_ge (tgt := 341) hx hb dX9_reads_224 (by decide) (fun c46 => ?_) (fun c46 => ?_)
  · have h := g_t c46 h
    refine lv_aload_n hx hb dX9_reads_341 rfl (lv_at hl 0 rfl) ?_
    refine lv_aload_n hx hb dX9_reads_342 rfl (lv_at hl 0 rfl) ?_
    refine zx_get (C := RX9) (T := TX9) (N := 35) F hW wu_X9 (by decide) zx_E43 rfl 27 (by decide) wf_X9_173 rfl dX9_reads_343 ?_
    obtain ⟨S47, eS47, h⟩ := g_pin h
    refine zx_putv (C := RX9) (T := TX9) (N := 35) F hW hS wu_X9 tyX9_ok nmX9 (by decide) zx_E43 rfl 31 (by decide) wf_X9_214 rfl (S 43 27) rfl rfl (Nat.le_of_ble_eq_true rfl) rfl dX9_reads_346 (fun H locs hW hS => ?_)
    have hW : zx_W D a cs S47 H := by rw [eS47]; exact hW
    refine lv_aload_n hx hb dX9_reads_349 rfl (lv_at hl 0 rfl) ?_
    refine zx_get (C := RX9) (T := TX9) (N := 35) F hW wu_X9 (by decide) zx_E43 rfl 27 (by decide) wf_X9_173 rfl dX9_reads_350 ?_
    refine lv_aload_n hx hb dX9_reads_353 rfl (lv_at hl 0 rfl) ?_
    refine zx_get (C := RX9) (T := TX9) (N := 35) F hW wu_X9 (by decide) zx_E43 rfl 32 (by decide) wf_X9_204 rfl dX9_reads_354 ?_
    refine lv_iadd hx hb dX9_reads_357 ?_
    refine lv_aload_n hx hb dX9_reads_358 rfl (lv_at hl 0 rfl) ?_
    refine zx_get (C := RX9) (T := TX9) (N := 35) F hW wu_X9 (by decide) zx_E43 rfl 1 (by decide) wf_X9_70 rfl dX9_reads_359 ?_
    refine lv_icmp_le (tgt := 375) hx hb dX9_reads_362 (by decide) (fun c48 => ?_) (fun c48 => ?_)
    · have h := g_t c48 h
      refine lv_aload_n hx hb dX9_reads_375 rfl (lv_at hl 0 rfl) ?_
      refine zx_get (C := RX9) (T := TX9) (N := 35) F hW wu_X9 (by decide) zx_E43 rfl 27 (by decide) wf_X9_173 rfl dX9_reads_376 ?_
      refine lv_aload_n hx hb dX9_reads_379 rfl (lv_at hl 0 rfl) ?_
      refine zx_get (C := RX9) (T := TX9) (N := 35) F hW wu_X9 (by decide) zx_E43 rfl 32 (by decide) wf_X9_204 rfl dX9_reads_380 ?_
      refine lv_iadd hx hb dX9_reads_383 ?_
      refine lv_aload_n hx hb dX9_reads_384 rfl (lv_at hl 0 rfl) ?_
      refine zx_get (C := RX9) (T := TX9) (N := 35) F hW wu_X9 (by decide) zx_E43 rfl 1 (by decide) wf_X9_70 rfl dX9_reads_385 ?_
      refine lv_icmp_ge (tgt := 407) hx hb dX9_reads_388 (by decide) (fun c49 => ?_) (fun c49 => ?_)
      · have h := g_t c49 h
        refine lv_aload_n hx hb dX9_reads_407 rfl (lv_at hl 0 rfl) ?_
        refine lv_bipush (v := 6) hx hb dX9_reads_408 (by decide) ?_
        obtain ⟨r50, S51, h52, h⟩ := g_bd h
        refine zx_cv (zx_runV (q := (RX9, TX9, 35)) (As := [.int (6 : Int32)]) (rest := []) F hW (c_X9_begin l D a cs fu (6 : Int32)  S47 r50 S51 h52) Y_X9_begin wi_X9_begin ws_X9_begin wm_X9_80 ⟨rfl, rfl, Nat.le_of_ble_eq_true rfl, Nat.le_of_ble_eq_true rfl, Nat.le_of_ble_eq_true rfl, Nat.le_of_ble_eq_true rfl⟩ (by decide) zx_E43 rfl rfl hl.1 rfl (Nat.le_of_ble_eq_true rfl) dX9_reads_410) hS (fun H locs hW hS => ?_)
        refine lv_aload_n hx hb dX9_reads_413 rfl (lv_at hl 0 rfl) ?_
        refine lv_bipush (v := 6) hx hb dX9_reads_414 (by decide) ?_
        refine lv_aload_n hx hb dX9_reads_416 rfl (lv_at hl 0 rfl) ?_
        refine zx_get (C := RX9) (T := TX9) (N := 35) F hW wu_X9 (by decide) zx_E43 rfl 29 (by decide) wf_X9_190 rfl dX9_reads_417 ?_
        obtain ⟨r53, S54, h55, h⟩ := g_bd h
        refine zx_cv (zx_runV (q := (RX9, TX9, 35)) (As := [.int (6 : Int32), .int (S51 43 29)]) (rest := []) F hW (c_X9_lay l D a cs fu (6 : Int32) (S51 43 29)  S51 r53 S54 h55) Y_X9_lay wi_X9_lay ws_X9_lay wm_X9_106 ⟨rfl, rfl, Nat.le_of_ble_eq_true rfl, Nat.le_of_ble_eq_true rfl, Nat.le_of_ble_eq_true rfl, Nat.le_of_ble_eq_true rfl⟩ (by decide) zx_E43 rfl rfl hl.1 rfl (Nat.le_of_ble_eq_true rfl) dX9_reads_420) hS (fun H locs hW hS => ?_)
        refine lv_aload_n hx hb dX9_reads_423 rfl (lv_at hl 0 rfl) ?_
        obtain ⟨r56, S57, h58, h⟩ := g_bd h
        refine zx_ci (zx_runV (q := (RX9, TX9, 35)) (As := []) (rest := []) F hW (c_X9_readsMessage l D a cs fu   S54 r56 S57 h58) Y_X9_readsMessage wi_X9_readsMessage ws_X9_readsMessage wm_X9_217 ⟨rfl, rfl, Nat.le_of_ble_eq_true rfl, Nat.le_of_ble_eq_true rfl, Nat.le_of_ble_eq_true rfl, Nat.le_of_ble_eq_true rfl⟩ (by decide) zx_E43 rfl rfl hl.1 rfl (Nat.le_of_ble_eq_true rfl) dX9_reads_424) hS (fun H locs hW hS => ?_)
        obtain ⟨c59, h⟩ := g_ok h
        exact zx_rz F hr c59 hW hS h dX9_reads_427
      · have h := g_f c49 h
        refine lv_aload_n hx hb dX9_reads_391 rfl (lv_at hl 0 rfl) ?_
        refine lv_bipush (v := 8) hx hb dX9_reads_392 (by decide) ?_
        refine lv_aload_n hx hb dX9_reads_394 rfl (lv_at hl 0 rfl) ?_
        refine zx_get (C := RX9) (T := TX9) (N := 35) F hW wu_X9 (by decide) zx_E43 rfl 27 (by decide) wf_X9_173 rfl dX9_reads_395 ?_
        refine lv_aload_n hx hb dX9_reads_398 rfl (lv_at hl 0 rfl) ?_
        refine zx_get (C := RX9) (T := TX9) (N := 35) F hW wu_X9 (by decide) zx_E43 rfl 32 (by decide) wf_X9_204 rfl dX9_reads_399 ?_
        refine lv_iadd hx hb dX9_reads_402 ?_
        obtain ⟨r60, S61, h62, h⟩ := g_bd h
        refine zx_ci (zx_runV (q := (RX9, TX9, 35)) (As := [.int (8 : Int32), .int ((S47 43 27) + (S47 43 32))]) (rest := []) F hW (c_X9_fails l D a cs (8 : Int32) ((S47 43 27) + (S47 43 32))  S47 r60 S61 h62) Y_X9_fails wi_X9_fails ws_X9_fails wm_X9_176 ⟨rfl, rfl, Nat.le_of_ble_eq_true rfl, Nat.le_of_ble_eq_true rfl, Nat.le_of_ble_eq_true rfl, Nat.le_of_ble_eq_true rfl⟩ (by decide) zx_E43 rfl rfl hl.1 rfl (Nat.le_of_ble_eq_true rfl) dX9_reads_403) hS (fun H locs hW hS => ?_)
        obtain ⟨c63, h⟩ := g_ok h
        exact zx_rz F hr c63 hW hS h dX9_reads_406
    · have h := g_f c48 h
      refine lv_aload_n hx hb dX9_reads_365 rfl (lv_at hl 0 rfl) ?_
      refine lv_iconst (v := 1) hx hb dX9_reads_366 (by decide) ?_
      refine lv_aload_n hx hb dX9_reads_367 rfl (lv_at hl 0 rfl) ?_
      refine zx_get (C := RX9) (T := TX9) (N := 35) F hW wu_X9 (by decide) zx_E43 rfl 1 (by decide) wf_X9_70 rfl dX9_reads_368 ?_
      obtain ⟨r64, S65, h66, h⟩ := g_bd h
      refine zx_ci (zx_runV (q := (RX9, TX9, 35)) (As := [.int (1 : Int32), .int (S47 43 1)]) (rest := []) F hW (c_X9_fails l D a cs (1 : Int32) (S47 43 1)  S47 r64 S65 h66) Y_X9_fails wi_X9_fails ws_X9_fails wm_X9_176 ⟨rfl, rfl, Nat.le_of_ble_eq_true rfl, Nat.le_of_ble_eq_true rfl, Nat.le_of_ble_eq_true rfl, Nat.le_of_ble_eq_true rfl⟩ (by decide) zx_E43 rfl rfl hl.1 rfl (Nat.le_of_ble_eq_true rfl) dX9_reads_371) hS (fun H locs hW hS => ?_)
      obtain ⟨c67, h⟩ := g_ok h
      exact zx_rz F hr c67 hW hS h dX9_reads_374
  · have h := g_f c46 h
    refine lv_aload_n hx hb dX9_reads_227 rfl (lv_at hl 0 rfl) ?_
    refine zx_get (C := RX9) (T := TX9) (N := 35) F hW wu_X9 (by decide) zx_E43 rfl 27 (by decide) wf_X9_173 rfl dX9_reads_228 ?_
    obtain ⟨x68, ex68, h⟩ := g_pin h
    refine zx_nm ex68 ?_
    refine lv_istore_n (lv' := [(3, .int x68), (0, .ref (a 43)), (4, .int v4)]) hx hb dX9_reads_231 rfl hl (by decide) rfl (fun ls hl => ?_)
    refine lv_aload_n hx hb dX9_reads_232 rfl (lv_at hl 1 rfl) ?_
    refine lv_aload_n hx hb dX9_reads_233 rfl (lv_at hl 1 rfl) ?_
    refine zx_get (C := RX9) (T := TX9) (N := 35) F hW wu_X9 (by decide) zx_E43 rfl 28 (by decide) wf_X9_187 rfl dX9_reads_234 ?_
    refine lv_if_ne (tgt := 244) hx hb dX9_reads_237 (by decide) (fun c69 => ?_) (fun c69 => ?_)
    · have h := g_f c69 h
      refine lv_iconst (v := 4) hx hb dX9_reads_244 (by decide) ?_
      exact k_X9_reads_L245  F hr hK209  x68 v4 (4 : Int32) S h _ _ _ hW hS (lv_sub hl [1, 0, 2] rfl)
    · have h := g_t c69 h
      refine lv_iconst (v := 2) hx hb dX9_reads_240 (by decide) ?_
      refine lv_goto (tgt := 245) hx hb dX9_reads_241 (by decide) ?_
      exact k_X9_reads_L245  F hr hK209  x68 v4 (2 : Int32) S h _ _ _ hW hS (lv_sub hl [1, 0, 2] rfl)
set_option maxHeartbeats 4000000 in
set_option maxRecDepth 100000 in
theorem k_X9_reads_L209 {l : Launch} {D : va_G} {a : Nat → Nat} {cs : zx_C} {p : Program} {e : Env} {s : State} {m : MethodId} {below : List Frame} {meth : Method} {c : Code} {fu : Nat}   (F : zx_F D a cs p m c cX9_reads 5 s ([.ref (a 43)] : List Value).toArray RX9 meth) (hr : meth.sig.returnType = (some (.boolean))) {r9 : Int32} {S9 : St}    : ∀ (n : Nat) (v4 : Int32) (S : St), f_X9_reads_L209 fu    n v4 S = some (r9, S9) → ∀ (H : Heap) (locs : List Loc) (ls : Array Slot), zx_W D a cs S H → va_S (zx_A a) s.heap H locs → lv_has ls 5 [(0, .ref (a 43)), (4, .int v4)] → W p l e ({ frames := 4, cells := 0, slots := 0, locals := 103 }) s m ([.ref (a 43)] : List Value).toArray below meth c H locs 0 0 (MQ below (zx_Qi D a cs r9 S9) ([.ref (a 43)] : List Value).toArray s 0 0 (zx_A a)) (F0 m 209 ls []) := by
  obtain ⟨⟨hx, hb, hml, hown, hts⟩, hlk, hK, hJ, hN⟩ := id F
  intro n
  induction n with
  | zero =>
    intro v4 S h
    exact absurd h (fun q => by cases q)
  | succ n ih =>
    intro v4 S h H locs ls hW hS hl
    rw [f_X9_reads_L209_s] at h
    refine lv_iload hx hb dX9_reads_209 (lv_at hl 1 rfl) ?_
    refine lv_aload_n hx hb dX9_reads_211 rfl (lv_at hl 0 rfl) ?_
    refine zx_get (C := RX9) (T := TX9) (N := 35) F hW wu_X9 (by decide) zx_E43 rfl 28 (by decide) wf_X9_187 rfl dX9_reads_212 ?_
    refine lv_iconst (v := 2) hx hb dX9_reads_215 (by decide) ?_
    refine lv_icmp_ne (tgt := 223) hx hb dX9_reads_216 (by decide) (fun c45 => ?_) (fun c45 => ?_)
    · have h := g_f c45 h
      refine lv_iconst (v := 1) hx hb dX9_reads_223 (by decide) ?_
      exact k_X9_reads_L224  F hr ih  v4 (1 : Int32) v4 S h _ _ _ hW hS (lv_sub hl [0, 1] rfl)
    · have h := g_t c45 h
      refine lv_iconst (v := 2) hx hb dX9_reads_219 (by decide) ?_
      refine lv_goto (tgt := 224) hx hb dX9_reads_220 (by decide) ?_
      exact k_X9_reads_L224  F hr ih  v4 (2 : Int32) v4 S h _ _ _ hW hS (lv_sub hl [0, 1] rfl)
set_option maxHeartbeats 4000000 in
set_option maxRecDepth 100000 in
theorem c_X9_reads (l : Launch) (D : va_G) (a : Nat → Nat) (cs : zx_C) (fu : Nat)   (S : St) (r9 : Int32) (S9 : St) (h : f_X9_reads fu  S = some (r9, S9)) : Met l yX9_reads (Cond.code yX9_reads cX9_reads 5 (some (.boolean)) :: zx_tb) ({ frames := 4, cells := 0, slots := 0, locals := 103 }) (zx_P D a cs [.ref (a 43)] S) (zx_Qi D a cs r9 S9) 0 0 (zx_A a) := by
  refine zx_met (own := RX9) (by decide) (Nat.le_of_ble_eq_true rfl) rfl ?_
  intro p e s m below meth c ls F hr hW hS hl
  have hl : lv_has ls 5 [(0, .ref (a 43))] := hl
  obtain ⟨⟨hx, hb, hml, hown, hts⟩, hlk, hK, hJ, hN⟩ := id F
  unfold f_X9_reads at h
  refine lv_aload_n hx hb dX9_reads_0 rfl (lv_at hl 0 rfl) ?_
  refine lv_iconst (v := 0) hx hb dX9_reads_1 (by decide) ?_
  obtain ⟨S1, eS1, h⟩ := g_pin h
  refine zx_putv (C := RX9) (T := TX9) (N := 35) F hW hS wu_X9 tyX9_ok nmX9 (by decide) zx_E43 rfl 27 (by decide) wf_X9_173 rfl (0 : Int32) rfl rfl (Nat.le_of_ble_eq_true rfl) rfl dX9_reads_2 (fun H locs hW hS => ?_)
  have hW : zx_W D a cs S1 H := by rw [eS1]; exact hW
  refine lv_aload_n hx hb dX9_reads_5 rfl (lv_at hl 0 rfl) ?_
  refine lv_iconst (v := 1) hx hb dX9_reads_6 (by decide) ?_
  obtain ⟨r2, S3, h4, h⟩ := g_bd h
  refine zx_cl1 (zx_runV (q := (RX9, TX9, 35)) (As := [.int (1 : Int32)]) (rest := []) F hW (c_X9_number l D a cs fu (1 : Int32)  S1 r2 S3 h4) Y_X9_number wi_X9_number ws_X9_number wm_X9_181 ⟨rfl, rfl, Nat.le_of_ble_eq_true rfl, Nat.le_of_ble_eq_true rfl, Nat.le_of_ble_eq_true rfl, Nat.le_of_ble_eq_true rfl⟩ (by decide) zx_E43 rfl rfl hl.1 rfl (Nat.le_of_ble_eq_true rfl) dX9_reads_7) hS (fun H locs hW hS => ?_)
  refine lv_lstore_n (lv' := [(1, .long r2), (0, .ref (a 43))]) hx hb dX9_reads_10 rfl hl (by decide) rfl (fun ls hl => ?_)
  refine lv_lload_n hx hb dX9_reads_11 rfl (lv_at hl 0 rfl) ?_
  refine lv_lconst (v := 0) hx hb dX9_reads_12 (by decide) ?_
  refine W.lcmp hx hb dX9_reads_13 ?_
  refine lv_if_ge (tgt := 19) hx hb dX9_reads_14 (by decide) (fun c5 => ?_) (fun c5 => ?_)
  · have h := g_t c5 h
    refine lv_lload_n hx hb dX9_reads_19 rfl (lv_at hl 0 rfl) ?_
    refine lv_ldc2 (v := 83) hx hb hown (hts _ wl_X9_185) dX9_reads_20 ?_
    refine W.lcmp hx hb dX9_reads_23 ?_
    refine lv_if_eq (tgt := 34) hx hb dX9_reads_24 (by decide) (fun c6 => ?_) (fun c6 => ?_)
    · have h := g_t c6 h
      refine lv_aload_n hx hb dX9_reads_34 rfl (lv_at hl 1 rfl) ?_
      refine lv_iconst (v := 1) hx hb dX9_reads_35 (by decide) ?_
      obtain ⟨r7, S8, h9, h⟩ := g_bd h
      refine zx_cl1 (zx_runV (q := (RX9, TX9, 35)) (As := [.int (1 : Int32)]) (rest := []) F hW (c_X9_number l D a cs fu (1 : Int32)  S3 r7 S8 h9) Y_X9_number wi_X9_number ws_X9_number wm_X9_181 ⟨rfl, rfl, Nat.le_of_ble_eq_true rfl, Nat.le_of_ble_eq_true rfl, Nat.le_of_ble_eq_true rfl, Nat.le_of_ble_eq_true rfl⟩ (by decide) zx_E43 rfl rfl hl.1 rfl (Nat.le_of_ble_eq_true rfl) dX9_reads_36) hS (fun H locs hW hS => ?_)
      refine lv_lstore_n (lv' := [(1, .long r7), (0, .ref (a 43))]) hx hb dX9_reads_39 rfl hl (by decide) rfl (fun ls hl => ?_)
      refine lv_lload_n hx hb dX9_reads_40 rfl (lv_at hl 0 rfl) ?_
      refine lv_lconst (v := 0) hx hb dX9_reads_41 (by decide) ?_
      refine W.lcmp hx hb dX9_reads_42 ?_
      refine lv_if_ge (tgt := 48) hx hb dX9_reads_43 (by decide) (fun c10 => ?_) (fun c10 => ?_)
      · have h := g_t c10 h
        refine lv_aload_n hx hb dX9_reads_48 rfl (lv_at hl 1 rfl) ?_
        refine lv_lload_n hx hb dX9_reads_49 rfl (lv_at hl 0 rfl) ?_
        refine lv_l2i hx hb dX9_reads_50 rfl ?_
        refine lv_iconst (v := 4) hx hb dX9_reads_51 (by decide) ?_
        refine lv_idiv hx hb dX9_reads_52 (by decide) ?_
        obtain ⟨S11, eS11, h⟩ := g_pin h
        refine zx_putv (C := RX9) (T := TX9) (N := 35) F hW hS wu_X9 tyX9_ok nmX9 (by decide) zx_E43 rfl 28 (by decide) wf_X9_187 rfl (((r7).toInt32) / (4 : Int32)) rfl rfl (Nat.le_of_ble_eq_true rfl) rfl dX9_reads_53 (fun H locs hW hS => ?_)
        have hW : zx_W D a cs S11 H := by rw [eS11]; exact hW
        refine lv_aload_n hx hb dX9_reads_56 rfl (lv_at hl 1 rfl) ?_
        refine lv_lload_n hx hb dX9_reads_57 rfl (lv_at hl 0 rfl) ?_
        refine lv_l2i hx hb dX9_reads_58 rfl ?_
        refine lv_iconst (v := 4) hx hb dX9_reads_59 (by decide) ?_
        refine lv_irem hx hb dX9_reads_60 (by decide) ?_
        obtain ⟨S12, eS12, h⟩ := g_pin h
        refine zx_putv (C := RX9) (T := TX9) (N := 35) F hW hS wu_X9 tyX9_ok nmX9 (by decide) zx_E43 rfl 29 (by decide) wf_X9_190 rfl (((r7).toInt32) - ((r7).toInt32) / (4 : Int32) * (4 : Int32)) rfl rfl (Nat.le_of_ble_eq_true rfl) rfl dX9_reads_61 (fun H locs hW hS => ?_)
        have hW : zx_W D a cs S12 H := by rw [eS12]; exact hW
        refine lv_aload_n hx hb dX9_reads_64 rfl (lv_at hl 1 rfl) ?_
        refine zx_get (C := RX9) (T := TX9) (N := 35) F hW wu_X9 (by decide) zx_E43 rfl 28 (by decide) wf_X9_187 rfl dX9_reads_65 ?_
        refine lv_aload_n hx hb dX9_reads_68 rfl (lv_at hl 1 rfl) ?_
        refine zx_get (C := RX9) (T := TX9) (N := 35) F hW wu_X9 (by decide) zx_E43 rfl 29 (by decide) wf_X9_190 rfl dX9_reads_69 ?_
        obtain ⟨r13, S14, h15, h⟩ := g_bd h
        refine zx_ci (zx_runS (As := [.int (S12 43 28), .int (S12 43 29)]) (rest := []) F hW (c_X9_isWay l D a cs (S12 43 28) (S12 43 29)  S12 r13 S14 h15) Y_X9_isWay wt_X9_isWay wm_X9_119 ⟨rfl, rfl, Nat.le_of_ble_eq_true rfl, Nat.le_of_ble_eq_true rfl, Nat.le_of_ble_eq_true rfl, Nat.le_of_ble_eq_true rfl⟩ rfl hl.1 rfl (Nat.le_of_ble_eq_true rfl) dX9_reads_72) hS (fun H locs hW hS => ?_)
        refine lv_if_ne (tgt := 85) hx hb dX9_reads_75 (by decide) (fun c16 => ?_) (fun c16 => ?_)
        · have h := g_f c16 h
          refine lv_aload_n hx hb dX9_reads_85 rfl (lv_at hl 1 rfl) ?_
          refine lv_iconst (v := 1) hx hb dX9_reads_86 (by decide) ?_
          obtain ⟨r17, S18, h19, h⟩ := g_bd h
          refine zx_cl1 (zx_runV (q := (RX9, TX9, 35)) (As := [.int (1 : Int32)]) (rest := []) F hW (c_X9_number l D a cs fu (1 : Int32)  S14 r17 S18 h19) Y_X9_number wi_X9_number ws_X9_number wm_X9_181 ⟨rfl, rfl, Nat.le_of_ble_eq_true rfl, Nat.le_of_ble_eq_true rfl, Nat.le_of_ble_eq_true rfl, Nat.le_of_ble_eq_true rfl⟩ (by decide) zx_E43 rfl rfl hl.1 rfl (Nat.le_of_ble_eq_true rfl) dX9_reads_87) hS (fun H locs hW hS => ?_)
          refine lv_lstore_n (lv' := [(1, .long r17), (0, .ref (a 43))]) hx hb dX9_reads_90 rfl hl (by decide) rfl (fun ls hl => ?_)
          refine lv_lload_n hx hb dX9_reads_91 rfl (lv_at hl 0 rfl) ?_
          refine lv_lconst (v := 0) hx hb dX9_reads_92 (by decide) ?_
          refine W.lcmp hx hb dX9_reads_93 ?_
          refine lv_if_ge (tgt := 99) hx hb dX9_reads_94 (by decide) (fun c20 => ?_) (fun c20 => ?_)
          · have h := g_t c20 h
            refine lv_lload_n hx hb dX9_reads_99 rfl (lv_at hl 0 rfl) ?_
            refine lv_lconst (v := 1) hx hb dX9_reads_100 (by decide) ?_
            refine W.lcmp hx hb dX9_reads_101 ?_
            refine lv_if_lt (tgt := 113) hx hb dX9_reads_102 (by decide) (fun c21 => ?_) (fun c21 => ?_)
            · have h := g_t c21 h
              exact k_X9_reads_L113  F hr    S18 h _ _ _ hW hS (lv_sub hl [1] rfl)
            · have h := g_f c21 h
              refine lv_lload_n hx hb dX9_reads_105 rfl (lv_at hl 0 rfl) ?_
              refine lv_ldc2 (v := 12) hx hb hown (hts _ wl_X9_193) dX9_reads_106 ?_
              refine W.lcmp hx hb dX9_reads_109 ?_
              refine lv_if_le (tgt := 120) hx hb dX9_reads_110 (by decide) (fun c26 => ?_) (fun c26 => ?_)
              · have h := g_t c26 h
                refine lv_aload_n hx hb dX9_reads_120 rfl (lv_at hl 1 rfl) ?_
                refine zx_get (C := RX9) (T := TX9) (N := 35) F hW wu_X9 (by decide) zx_E43 rfl 4 (by decide) wf_X9_16 rfl dX9_reads_121 ?_
                refine lv_bipush (v := 6) hx hb dX9_reads_124 (by decide) ?_
                refine lv_lload_n hx hb dX9_reads_126 rfl (lv_at hl 0 rfl) ?_
                refine lv_l2i hx hb dX9_reads_127 rfl ?_
                obtain ⟨S27, eS27, h⟩ := g_pin h
                refine zx_iast (n := 7) F hW hS (by decide) (fun f => zx_E46) (by unfold vp_in; decide) dX9_reads_128 (fun H locs hW hS => ?_)
                have hW : zx_W D a cs S27 H := by rw [eS27]; exact hW
                refine lv_aload_n hx hb dX9_reads_129 rfl (lv_at hl 1 rfl) ?_
                obtain ⟨r28, S29, h30, h⟩ := g_bd h
                refine zx_ci (zx_runV (q := (RX9, TX9, 35)) (As := []) (rest := []) F hW (c_X9_readsShares l D a cs fu   S27 r28 S29 h30) Y_X9_readsShares wi_X9_readsShares ws_X9_readsShares wm_X9_195 ⟨rfl, rfl, Nat.le_of_ble_eq_true rfl, Nat.le_of_ble_eq_true rfl, Nat.le_of_ble_eq_true rfl, Nat.le_of_ble_eq_true rfl⟩ (by decide) zx_E43 rfl rfl hl.1 rfl (Nat.le_of_ble_eq_true rfl) dX9_reads_130) hS (fun H locs hW hS => ?_)
                refine lv_if_ne (tgt := 138) hx hb dX9_reads_133 (by decide) (fun c31 => ?_) (fun c31 => ?_)
                · have h := g_f c31 h
                  refine lv_aload_n hx hb dX9_reads_138 rfl (lv_at hl 1 rfl) ?_
                  refine zx_get (C := RX9) (T := TX9) (N := 35) F hW wu_X9 (by decide) zx_E43 rfl 27 (by decide) wf_X9_173 rfl dX9_reads_139 ?_
                  obtain ⟨x32, ex32, h⟩ := g_pin h
                  refine zx_nm ex32 ?_
                  refine lv_istore_n (lv' := [(3, .int x32), (1, .long r17), (0, .ref (a 43))]) hx hb dX9_reads_142 rfl hl (by decide) rfl (fun ls hl => ?_)
                  refine lv_aload_n hx hb dX9_reads_143 rfl (lv_at hl 2 rfl) ?_
                  refine lv_iconst (v := 2) hx hb dX9_reads_144 (by decide) ?_
                  obtain ⟨r33, S34, h35, h⟩ := g_bd h
                  refine zx_cl1 (zx_runV (q := (RX9, TX9, 35)) (As := [.int (2 : Int32)]) (rest := []) F hW (c_X9_number l D a cs fu (2 : Int32)  S29 r33 S34 h35) Y_X9_number wi_X9_number ws_X9_number wm_X9_181 ⟨rfl, rfl, Nat.le_of_ble_eq_true rfl, Nat.le_of_ble_eq_true rfl, Nat.le_of_ble_eq_true rfl, Nat.le_of_ble_eq_true rfl⟩ (by decide) zx_E43 rfl rfl hl.1 rfl (Nat.le_of_ble_eq_true rfl) dX9_reads_145) hS (fun H locs hW hS => ?_)
                  refine lv_lstore_n (lv' := [(1, .long r33), (3, .int x32), (0, .ref (a 43))]) hx hb dX9_reads_148 rfl hl (by decide) rfl (fun ls hl => ?_)
                  refine lv_lload_n hx hb dX9_reads_149 rfl (lv_at hl 0 rfl) ?_
                  refine lv_lconst (v := 0) hx hb dX9_reads_150 (by decide) ?_
                  refine W.lcmp hx hb dX9_reads_151 ?_
                  refine lv_if_ge (tgt := 157) hx hb dX9_reads_152 (by decide) (fun c36 => ?_) (fun c36 => ?_)
                  · have h := g_t c36 h
                    refine lv_lload_n hx hb dX9_reads_157 rfl (lv_at hl 0 rfl) ?_
                    refine lv_ldc2 (v := 1400) hx hb hown (hts _ wl_X9_199) dX9_reads_158 ?_
                    refine W.lcmp hx hb dX9_reads_161 ?_
                    refine lv_if_le (tgt := 172) hx hb dX9_reads_162 (by decide) (fun c37 => ?_) (fun c37 => ?_)
                    · have h := g_t c37 h
                      refine lv_aload_n hx hb dX9_reads_172 rfl (lv_at hl 2 rfl) ?_
                      refine lv_lload_n hx hb dX9_reads_173 rfl (lv_at hl 0 rfl) ?_
                      refine lv_l2i hx hb dX9_reads_174 rfl ?_
                      obtain ⟨S38, eS38, h⟩ := g_pin h
                      refine zx_putv (C := RX9) (T := TX9) (N := 35) F hW hS wu_X9 tyX9_ok nmX9 (by decide) zx_E43 rfl 30 (by decide) wf_X9_201 rfl ((r33).toInt32) rfl rfl (Nat.le_of_ble_eq_true rfl) rfl dX9_reads_175 (fun H locs hW hS => ?_)
                      have hW : zx_W D a cs S38 H := by rw [eS38]; exact hW
                      refine lv_aload_n hx hb dX9_reads_178 rfl (lv_at hl 2 rfl) ?_
                      refine lv_iconst (v := 2) hx hb dX9_reads_179 (by decide) ?_
                      obtain ⟨r39, S40, h41, h⟩ := g_bd h
                      refine zx_cl1 (zx_runV (q := (RX9, TX9, 35)) (As := [.int (2 : Int32)]) (rest := []) F hW (c_X9_number l D a cs fu (2 : Int32)  S38 r39 S40 h41) Y_X9_number wi_X9_number ws_X9_number wm_X9_181 ⟨rfl, rfl, Nat.le_of_ble_eq_true rfl, Nat.le_of_ble_eq_true rfl, Nat.le_of_ble_eq_true rfl, Nat.le_of_ble_eq_true rfl⟩ (by decide) zx_E43 rfl rfl hl.1 rfl (Nat.le_of_ble_eq_true rfl) dX9_reads_180) hS (fun H locs hW hS => ?_)
                      refine lv_lstore_n (lv' := [(1, .long r39), (3, .int x32), (0, .ref (a 43))]) hx hb dX9_reads_183 rfl hl (by decide) rfl (fun ls hl => ?_)
                      refine lv_lload_n hx hb dX9_reads_184 rfl (lv_at hl 0 rfl) ?_
                      refine lv_lconst (v := 0) hx hb dX9_reads_185 (by decide) ?_
                      refine W.lcmp hx hb dX9_reads_186 ?_
                      refine lv_if_ge (tgt := 192) hx hb dX9_reads_187 (by decide) (fun c42 => ?_) (fun c42 => ?_)
                      · have h := g_t c42 h
                        refine lv_aload_n hx hb dX9_reads_192 rfl (lv_at hl 2 rfl) ?_
                        refine lv_lload_n hx hb dX9_reads_193 rfl (lv_at hl 0 rfl) ?_
                        refine lv_l2i hx hb dX9_reads_194 rfl ?_
                        obtain ⟨S43, eS43, h⟩ := g_pin h
                        refine zx_putv (C := RX9) (T := TX9) (N := 35) F hW hS wu_X9 tyX9_ok nmX9 (by decide) zx_E43 rfl 32 (by decide) wf_X9_204 rfl ((r39).toInt32) rfl rfl (Nat.le_of_ble_eq_true rfl) rfl dX9_reads_195 (fun H locs hW hS => ?_)
                        have hW : zx_W D a cs S43 H := by rw [eS43]; exact hW
                        refine lv_aload_n hx hb dX9_reads_198 rfl (lv_at hl 2 rfl) ?_
                        refine lv_aload_n hx hb dX9_reads_199 rfl (lv_at hl 2 rfl) ?_
                        refine zx_get (C := RX9) (T := TX9) (N := 35) F hW wu_X9 (by decide) zx_E43 rfl 27 (by decide) wf_X9_173 rfl dX9_reads_200 ?_
                        obtain ⟨S44, eS44, h⟩ := g_pin h
                        refine zx_putv (C := RX9) (T := TX9) (N := 35) F hW hS wu_X9 tyX9_ok nmX9 (by decide) zx_E43 rfl 33 (by decide) wf_X9_207 rfl (S43 43 27) rfl rfl (Nat.le_of_ble_eq_true rfl) rfl dX9_reads_203 (fun H locs hW hS => ?_)
                        have hW : zx_W D a cs S44 H := by rw [eS44]; exact hW
                        refine lv_iconst (v := 0) hx hb dX9_reads_206 (by decide) ?_
                        refine lv_istore (lv' := [(4, .int (0 : Int32)), (1, .long r39), (3, .int x32), (0, .ref (a 43))]) hx hb dX9_reads_207 hl (by decide) rfl (fun ls hl => ?_)
                        exact k_X9_reads_L209  F hr   fu (0 : Int32) S44 h _ _ _ hW hS (lv_sub hl [3, 0] rfl)
                      · have h := g_f c42 h
                        refine lv_iconst (v := 0) hx hb dX9_reads_190 (by decide) ?_
                        exact zx_rz F hr (by decide) hW hS h dX9_reads_191
                    · have h := g_f c37 h
                      refine lv_aload_n hx hb dX9_reads_165 rfl (lv_at hl 2 rfl) ?_
                      refine lv_iconst (v := 2) hx hb dX9_reads_166 (by decide) ?_
                      refine lv_iload_n hx hb dX9_reads_167 rfl (lv_at hl 1 rfl) ?_
                      obtain ⟨r86, S87, h88, h⟩ := g_bd h
                      refine zx_ci (zx_runV (q := (RX9, TX9, 35)) (As := [.int (2 : Int32), .int x32]) (rest := []) F hW (c_X9_fails l D a cs (2 : Int32) x32  S34 r86 S87 h88) Y_X9_fails wi_X9_fails ws_X9_fails wm_X9_176 ⟨rfl, rfl, Nat.le_of_ble_eq_true rfl, Nat.le_of_ble_eq_true rfl, Nat.le_of_ble_eq_true rfl, Nat.le_of_ble_eq_true rfl⟩ (by decide) zx_E43 rfl rfl hl.1 rfl (Nat.le_of_ble_eq_true rfl) dX9_reads_168) hS (fun H locs hW hS => ?_)
                      obtain ⟨c89, h⟩ := g_ok h
                      exact zx_rz F hr c89 hW hS h dX9_reads_171
                  · have h := g_f c36 h
                    refine lv_iconst (v := 0) hx hb dX9_reads_155 (by decide) ?_
                    exact zx_rz F hr (by decide) hW hS h dX9_reads_156
                · have h := g_t c31 h
                  refine lv_iconst (v := 0) hx hb dX9_reads_136 (by decide) ?_
                  exact zx_rz F hr (by decide) hW hS h dX9_reads_137
              · have h := g_f c26 h
                exact k_X9_reads_L113  F hr    S18 h _ _ _ hW hS (lv_sub hl [1] rfl)
          · have h := g_f c20 h
            refine lv_iconst (v := 0) hx hb dX9_reads_97 (by decide) ?_
            exact zx_rz F hr (by decide) hW hS h dX9_reads_98
        · have h := g_t c16 h
          refine lv_aload_n hx hb dX9_reads_78 rfl (lv_at hl 1 rfl) ?_
          refine lv_iconst (v := 2) hx hb dX9_reads_79 (by decide) ?_
          refine lv_iconst (v := 1) hx hb dX9_reads_80 (by decide) ?_
          obtain ⟨r90, S91, h92, h⟩ := g_bd h
          refine zx_ci (zx_runV (q := (RX9, TX9, 35)) (As := [.int (2 : Int32), .int (1 : Int32)]) (rest := []) F hW (c_X9_fails l D a cs (2 : Int32) (1 : Int32)  S14 r90 S91 h92) Y_X9_fails wi_X9_fails ws_X9_fails wm_X9_176 ⟨rfl, rfl, Nat.le_of_ble_eq_true rfl, Nat.le_of_ble_eq_true rfl, Nat.le_of_ble_eq_true rfl, Nat.le_of_ble_eq_true rfl⟩ (by decide) zx_E43 rfl rfl hl.1 rfl (Nat.le_of_ble_eq_true rfl) dX9_reads_81) hS (fun H locs hW hS => ?_)
          obtain ⟨c93, h⟩ := g_ok h
          exact zx_rz F hr c93 hW hS h dX9_reads_84
      · have h := g_f c10 h
        refine lv_iconst (v := 0) hx hb dX9_reads_46 (by decide) ?_
        exact zx_rz F hr (by decide) hW hS h dX9_reads_47
    · have h := g_f c6 h
      refine lv_aload_n hx hb dX9_reads_27 rfl (lv_at hl 1 rfl) ?_
      refine lv_iconst (v := 2) hx hb dX9_reads_28 (by decide) ?_
      refine lv_iconst (v := 0) hx hb dX9_reads_29 (by decide) ?_
      obtain ⟨r94, S95, h96, h⟩ := g_bd h
      refine zx_ci (zx_runV (q := (RX9, TX9, 35)) (As := [.int (2 : Int32), .int (0 : Int32)]) (rest := []) F hW (c_X9_fails l D a cs (2 : Int32) (0 : Int32)  S3 r94 S95 h96) Y_X9_fails wi_X9_fails ws_X9_fails wm_X9_176 ⟨rfl, rfl, Nat.le_of_ble_eq_true rfl, Nat.le_of_ble_eq_true rfl, Nat.le_of_ble_eq_true rfl, Nat.le_of_ble_eq_true rfl⟩ (by decide) zx_E43 rfl rfl hl.1 rfl (Nat.le_of_ble_eq_true rfl) dX9_reads_30) hS (fun H locs hW hS => ?_)
      obtain ⟨c97, h⟩ := g_ok h
      exact zx_rz F hr c97 hW hS h dX9_reads_33
  · have h := g_f c5 h
    refine lv_iconst (v := 0) hx hb dX9_reads_17 (by decide) ?_
    exact zx_rz F hr (by decide) hW hS h dX9_reads_18
theorem Y_X9_share : zx_Y yX9_share cX9_share 3 (some (.int)) 2 := ⟨wc_X9_share, wn_X9, by decide, by decide, by decide +kernel⟩
set_option maxHeartbeats 4000000 in
set_option maxRecDepth 100000 in
theorem c_X9_share (l : Launch) (D : va_G) (a : Nat → Nat) (cs : zx_C) (p0 : Int32) (p1 : Int32)  (S : St) (r9 : Int32) (S9 : St) (h : f_X9_share p0 p1 S = some (r9, S9)) : Met l yX9_share (Cond.code yX9_share cX9_share 3 (some (.int)) :: zx_tb) ({ frames := 1, cells := 0, slots := 0, locals := 21 }) (zx_P D a cs [.ref (a 43), .int p0, .int p1] S) (zx_Qi D a cs r9 S9) 0 0 (zx_A a) := by
  refine zx_met (own := RX9) (by decide) (Nat.le_of_ble_eq_true rfl) rfl ?_
  intro p e s m below meth c ls F hr hW hS hl
  have hl : lv_has ls 3 [(0, .ref (a 43)), (1, .int p0), (2, .int p1)] := hl
  obtain ⟨⟨hx, hb, hml, hown, hts⟩, hlk, hK, hJ, hN⟩ := id F
  unfold f_X9_share at h
  refine lv_aload_n hx hb dX9_share_0 rfl (lv_at hl 0 rfl) ?_
  refine lv_iload_n hx hb dX9_share_1 rfl (lv_at hl 1 rfl) ?_
  obtain ⟨r1, S2, h3, h⟩ := g_bd h
  refine zx_ci (zx_runV (q := (RX9, TX9, 35)) (As := [.int p0]) (rest := []) F hW (c_X9_isTable l D a cs p0  S r1 S2 h3) Y_X9_isTable wi_X9_isTable ws_X9_isTable wm_X9_84 ⟨rfl, rfl, Nat.le_of_ble_eq_true rfl, Nat.le_of_ble_eq_true rfl, Nat.le_of_ble_eq_true rfl, Nat.le_of_ble_eq_true rfl⟩ (by decide) zx_E43 rfl rfl hl.1 rfl (Nat.le_of_ble_eq_true rfl) dX9_share_2) hS (fun H locs hW hS => ?_)
  refine lv_if_eq (tgt := 34) hx hb dX9_share_5 (by decide) (fun c4 => ?_) (fun c4 => ?_)
  · have h := g_t c4 h
    refine lv_iconst (v := -1) hx hb dX9_share_34 (by decide) ?_
    exact zx_ri F hr hW hS h dX9_share_35
  · have h := g_f c4 h
    refine lv_iload_n hx hb dX9_share_8 rfl (lv_at hl 2 rfl) ?_
    refine lv_if_lt (tgt := 34) hx hb dX9_share_9 (by decide) (fun c5 => ?_) (fun c5 => ?_)
    · have h := g_t c5 h
      refine lv_iconst (v := -1) hx hb dX9_share_34 (by decide) ?_
      exact zx_ri F hr hW hS h dX9_share_35
    · have h := g_f c5 h
      refine lv_iload_n hx hb dX9_share_12 rfl (lv_at hl 2 rfl) ?_
      refine lv_sipush (v := 256) hx hb dX9_share_13 (by decide) ?_
      refine lv_icmp_ge (tgt := 34) hx hb dX9_share_16 (by decide) (fun c6 => ?_) (fun c6 => ?_)
      · have h := g_t c6 h
        refine lv_iconst (v := -1) hx hb dX9_share_34 (by decide) ?_
        exact zx_ri F hr hW hS h dX9_share_35
      · have h := g_f c6 h
        refine lv_aload_n hx hb dX9_share_19 rfl (lv_at hl 0 rfl) ?_
        refine zx_get (C := RX9) (T := TX9) (N := 35) F hW wu_X9 (by decide) zx_E43 rfl 5 (by decide) wf_X9_19 rfl dX9_share_20 ?_
        refine lv_sipush (v := 256) hx hb dX9_share_23 (by decide) ?_
        refine lv_iload_n hx hb dX9_share_26 rfl (lv_at hl 1 rfl) ?_
        refine lv_imul hx hb dX9_share_27 ?_
        refine lv_iload_n hx hb dX9_share_28 rfl (lv_at hl 2 rfl) ?_
        refine lv_iadd hx hb dX9_share_29 ?_
        obtain ⟨c7, h⟩ := g_no h
        refine zx_iald (n := 1792) F hW (by decide) zx_E47 c7 dX9_share_30 ?_
        refine lv_goto (tgt := 35) hx hb dX9_share_31 (by decide) ?_
        exact zx_ri F hr hW hS h dX9_share_35
theorem Y_X9_start : zx_Y yX9_start cX9_start 3 (some (.int)) 2 := ⟨wc_X9_start, wn_X9, by decide, by decide, by decide +kernel⟩
set_option maxHeartbeats 4000000 in
set_option maxRecDepth 100000 in
theorem c_X9_start (l : Launch) (D : va_G) (a : Nat → Nat) (cs : zx_C) (p0 : Int32) (p1 : Int32)  (S : St) (r9 : Int32) (S9 : St) (h : f_X9_start p0 p1 S = some (r9, S9)) : Met l yX9_start (Cond.code yX9_start cX9_start 3 (some (.int)) :: zx_tb) ({ frames := 1, cells := 0, slots := 0, locals := 21 }) (zx_P D a cs [.ref (a 43), .int p0, .int p1] S) (zx_Qi D a cs r9 S9) 0 0 (zx_A a) := by
  refine zx_met (own := RX9) (by decide) (Nat.le_of_ble_eq_true rfl) rfl ?_
  intro p e s m below meth c ls F hr hW hS hl
  have hl : lv_has ls 3 [(0, .ref (a 43)), (1, .int p0), (2, .int p1)] := hl
  obtain ⟨⟨hx, hb, hml, hown, hts⟩, hlk, hK, hJ, hN⟩ := id F
  unfold f_X9_start at h
  refine lv_aload_n hx hb dX9_start_0 rfl (lv_at hl 0 rfl) ?_
  refine lv_iload_n hx hb dX9_start_1 rfl (lv_at hl 1 rfl) ?_
  obtain ⟨r1, S2, h3, h⟩ := g_bd h
  refine zx_ci (zx_runV (q := (RX9, TX9, 35)) (As := [.int p0]) (rest := []) F hW (c_X9_isTable l D a cs p0  S r1 S2 h3) Y_X9_isTable wi_X9_isTable ws_X9_isTable wm_X9_84 ⟨rfl, rfl, Nat.le_of_ble_eq_true rfl, Nat.le_of_ble_eq_true rfl, Nat.le_of_ble_eq_true rfl, Nat.le_of_ble_eq_true rfl⟩ (by decide) zx_E43 rfl rfl hl.1 rfl (Nat.le_of_ble_eq_true rfl) dX9_start_2) hS (fun H locs hW hS => ?_)
  refine lv_if_eq (tgt := 34) hx hb dX9_start_5 (by decide) (fun c4 => ?_) (fun c4 => ?_)
  · have h := g_t c4 h
    refine lv_iconst (v := -1) hx hb dX9_start_34 (by decide) ?_
    exact zx_ri F hr hW hS h dX9_start_35
  · have h := g_f c4 h
    refine lv_iload_n hx hb dX9_start_8 rfl (lv_at hl 2 rfl) ?_
    refine lv_if_lt (tgt := 34) hx hb dX9_start_9 (by decide) (fun c5 => ?_) (fun c5 => ?_)
    · have h := g_t c5 h
      refine lv_iconst (v := -1) hx hb dX9_start_34 (by decide) ?_
      exact zx_ri F hr hW hS h dX9_start_35
    · have h := g_f c5 h
      refine lv_iload_n hx hb dX9_start_12 rfl (lv_at hl 2 rfl) ?_
      refine lv_sipush (v := 256) hx hb dX9_start_13 (by decide) ?_
      refine lv_icmp_ge (tgt := 34) hx hb dX9_start_16 (by decide) (fun c6 => ?_) (fun c6 => ?_)
      · have h := g_t c6 h
        refine lv_iconst (v := -1) hx hb dX9_start_34 (by decide) ?_
        exact zx_ri F hr hW hS h dX9_start_35
      · have h := g_f c6 h
        refine lv_aload_n hx hb dX9_start_19 rfl (lv_at hl 0 rfl) ?_
        refine zx_get (C := RX9) (T := TX9) (N := 35) F hW wu_X9 (by decide) zx_E43 rfl 6 (by decide) wf_X9_22 rfl dX9_start_20 ?_
        refine lv_sipush (v := 256) hx hb dX9_start_23 (by decide) ?_
        refine lv_iload_n hx hb dX9_start_26 rfl (lv_at hl 1 rfl) ?_
        refine lv_imul hx hb dX9_start_27 ?_
        refine lv_iload_n hx hb dX9_start_28 rfl (lv_at hl 2 rfl) ?_
        refine lv_iadd hx hb dX9_start_29 ?_
        obtain ⟨c7, h⟩ := g_no h
        refine zx_iald (n := 1792) F hW (by decide) zx_E48 c7 dX9_start_30 ?_
        refine lv_goto (tgt := 35) hx hb dX9_start_31 (by decide) ?_
        exact zx_ri F hr hW hS h dX9_start_35
theorem Y_X9_symbol : zx_Y yX9_symbol cX9_symbol 5 (some (.int)) 4 := ⟨wc_X9_symbol, wn_X9, by decide, by decide, by decide +kernel⟩
set_option maxHeartbeats 4000000 in
set_option maxRecDepth 100000 in
theorem c_X9_symbol (l : Launch) (D : va_G) (a : Nat → Nat) (cs : zx_C) (fu : Nat) (p0 : Int32) (p1 : Int32) (p2 : Int32) (p3 : Int32)  (S : St) (r9 : Int32) (S9 : St) (h : f_X9_symbol fu p0 p1 p2 p3 S = some (r9, S9)) : Met l yX9_symbol (Cond.code yX9_symbol cX9_symbol 5 (some (.int)) :: zx_tb) ({ frames := 5, cells := 0, slots := 0, locals := 127 }) (zx_P D a cs [.ref (a 43), .int p0, .int p1, .int p2, .int p3] S) (zx_Qi D a cs r9 S9) 0 0 (zx_A a) := by
  refine zx_met (own := RX9) (by decide) (Nat.le_of_ble_eq_true rfl) rfl ?_
  intro p e s m below meth c ls F hr hW hS hl
  have hl : lv_has ls 5 [(0, .ref (a 43)), (1, .int p0), (2, .int p1), (3, .int p2), (4, .int p3)] := hl
  obtain ⟨⟨hx, hb, hml, hown, hts⟩, hlk, hK, hJ, hN⟩ := id F
  unfold f_X9_symbol at h
  refine lv_aload_n hx hb dX9_symbol_0 rfl (lv_at hl 0 rfl) ?_
  refine lv_iload_n hx hb dX9_symbol_1 rfl (lv_at hl 1 rfl) ?_
  refine lv_iload_n hx hb dX9_symbol_2 rfl (lv_at hl 2 rfl) ?_
  refine lv_iload_n hx hb dX9_symbol_3 rfl (lv_at hl 3 rfl) ?_
  refine lv_iload hx hb dX9_symbol_4 (lv_at hl 4 rfl) ?_
  obtain ⟨r1, S2, h3, h⟩ := g_bd h
  refine zx_ci (zx_runV (q := (RX9, TX9, 35)) (As := [.int p0, .int p1, .int p2, .int p3]) (rest := []) F hW (c_X9_isAsked l D a cs fu p0 p1 p2 p3  S r1 S2 h3) Y_X9_isAsked wi_X9_isAsked ws_X9_isAsked wm_X9_126 ⟨rfl, rfl, Nat.le_of_ble_eq_true rfl, Nat.le_of_ble_eq_true rfl, Nat.le_of_ble_eq_true rfl, Nat.le_of_ble_eq_true rfl⟩ (by decide) zx_E43 rfl rfl hl.1 rfl (Nat.le_of_ble_eq_true rfl) dX9_symbol_6) hS (fun H locs hW hS => ?_)
  refine lv_if_eq (tgt := 24) hx hb dX9_symbol_9 (by decide) (fun c4 => ?_) (fun c4 => ?_)
  · have h := g_t c4 h
    refine lv_iconst (v := -1) hx hb dX9_symbol_24 (by decide) ?_
    exact zx_ri F hr hW hS h dX9_symbol_25
  · have h := g_f c4 h
    refine lv_aload_n hx hb dX9_symbol_12 rfl (lv_at hl 0 rfl) ?_
    refine lv_iload_n hx hb dX9_symbol_13 rfl (lv_at hl 1 rfl) ?_
    refine lv_iload_n hx hb dX9_symbol_14 rfl (lv_at hl 2 rfl) ?_
    refine lv_iload_n hx hb dX9_symbol_15 rfl (lv_at hl 3 rfl) ?_
    refine lv_iload hx hb dX9_symbol_16 (lv_at hl 4 rfl) ?_
    obtain ⟨r5, S6, h7, h⟩ := g_bd h
    refine zx_ci (zx_runV (q := (RX9, TX9, 35)) (As := [.int p0, .int p1, .int p2, .int p3]) (rest := []) F hW (c_X9_told l D a cs fu p0 p1 p2 p3  S2 r5 S6 h7) Y_X9_told wi_X9_told ws_X9_told wm_X9_140 ⟨rfl, rfl, Nat.le_of_ble_eq_true rfl, Nat.le_of_ble_eq_true rfl, Nat.le_of_ble_eq_true rfl, Nat.le_of_ble_eq_true rfl⟩ (by decide) zx_E43 rfl rfl hl.1 rfl (Nat.le_of_ble_eq_true rfl) dX9_symbol_18) hS (fun H locs hW hS => ?_)
    refine lv_goto (tgt := 25) hx hb dX9_symbol_21 (by decide) ?_
    exact zx_ri F hr hW hS h dX9_symbol_25
theorem Y_X9_take : zx_Y yX9_take cX9_take 2 (some (.int)) 0 := ⟨wc_X9_take, wn_X9, by decide, by decide, by decide +kernel⟩
set_option maxHeartbeats 4000000 in
set_option maxRecDepth 100000 in
theorem k_X9_take_L2 {l : Launch} {D : va_G} {a : Nat → Nat} {cs : zx_C} {p : Program} {e : Env} {s : State} {m : MethodId} {below : List Frame} {meth : Method} {c : Code} {fu : Nat}   (F : zx_F D a cs p m c cX9_take 2 s ([.ref (a 43)] : List Value).toArray RX9 meth) (hr : meth.sig.returnType = (some (.int))) {r9 : Int32} {S9 : St}    : ∀ (n : Nat) (v1 : Int32) (S : St), f_X9_take_L2 fu    n v1 S = some (r9, S9) → ∀ (H : Heap) (locs : List Loc) (ls : Array Slot), zx_W D a cs S H → va_S (zx_A a) s.heap H locs → lv_has ls 2 [(0, .ref (a 43)), (1, .int v1)] → W p l e ({ frames := 0, cells := 0, slots := 0, locals := 0 }) s m ([.ref (a 43)] : List Value).toArray below meth c H locs 0 0 (MQ below (zx_Qi D a cs r9 S9) ([.ref (a 43)] : List Value).toArray s 0 0 (zx_A a)) (F0 m 2 ls []) := by
  obtain ⟨⟨hx, hb, hml, hown, hts⟩, hlk, hK, hJ, hN⟩ := id F
  intro n
  induction n with
  | zero =>
    intro v1 S h
    exact absurd h (fun q => by cases q)
  | succ n ih =>
    intro v1 S h H locs ls hW hS hl
    rw [f_X9_take_L2_s] at h
    refine lv_iload_n hx hb dX9_take_2 rfl (lv_at hl 1 rfl) ?_
    refine lv_aload_n hx hb dX9_take_3 rfl (lv_at hl 0 rfl) ?_
    refine zx_get (C := RX9) (T := TX9) (N := 35) F hW wu_X9 (by decide) zx_E43 rfl 3 (by decide) wf_X9_73 rfl dX9_take_4 ?_
    refine lv_icmp_ge (tgt := 28) hx hb dX9_take_7 (by decide) (fun c1 => ?_) (fun c1 => ?_)
    · have h := g_t c1 h
      refine lv_aload_n hx hb dX9_take_28 rfl (lv_at hl 0 rfl) ?_
      refine lv_aload_n hx hb dX9_take_29 rfl (lv_at hl 0 rfl) ?_
      refine zx_get (C := RX9) (T := TX9) (N := 35) F hW wu_X9 (by decide) zx_E43 rfl 3 (by decide) wf_X9_73 rfl dX9_take_30 ?_
      obtain ⟨S2, eS2, h⟩ := g_pin h
      refine zx_putv (C := RX9) (T := TX9) (N := 35) F hW hS wu_X9 tyX9_ok nmX9 (by decide) zx_E43 rfl 1 (by decide) wf_X9_70 rfl (S 43 3) rfl rfl (Nat.le_of_ble_eq_true rfl) rfl dX9_take_33 (fun H locs hW hS => ?_)
      have hW : zx_W D a cs S2 H := by rw [eS2]; exact hW
      refine lv_aload_n hx hb dX9_take_36 rfl (lv_at hl 0 rfl) ?_
      refine zx_get (C := RX9) (T := TX9) (N := 35) F hW wu_X9 (by decide) zx_E43 rfl 1 (by decide) wf_X9_70 rfl dX9_take_37 ?_
      exact zx_ri F hr hW hS h dX9_take_40
    · have h := g_f c1 h
      refine lv_aload_n hx hb dX9_take_10 rfl (lv_at hl 0 rfl) ?_
      refine zx_get (C := RX9) (T := TX9) (N := 35) F hW wu_X9 (by decide) zx_E43 rfl 0 (by decide) wf_X9_7 rfl dX9_take_11 ?_
      refine lv_iload_n hx hb dX9_take_14 rfl (lv_at hl 1 rfl) ?_
      refine lv_aload_n hx hb dX9_take_15 rfl (lv_at hl 0 rfl) ?_
      refine zx_get (C := RX9) (T := TX9) (N := 35) F hW wu_X9 (by decide) zx_E43 rfl 2 (by decide) wf_X9_13 rfl dX9_take_16 ?_
      refine lv_iload_n hx hb dX9_take_19 rfl (lv_at hl 1 rfl) ?_
      obtain ⟨c3, h⟩ := g_no h
      refine zx_iald (n := 4000) F hW (by decide) zx_E45 c3 dX9_take_20 ?_
      obtain ⟨c5, h⟩ := g_no h
      obtain ⟨S4, eS4, h⟩ := g_pin h
      refine zx_iast (n := 4000) F hW hS (by decide) (fun f => zx_E44) c5 dX9_take_21 (fun H locs hW hS => ?_)
      have hW : zx_W D a cs S4 H := by rw [eS4]; exact hW
      obtain ⟨x6, ex6, h⟩ := g_pin h
      refine lv_iinc (v := x6) (lv' := [(1, .int x6), (0, .ref (a 43))]) hx hb dX9_take_22 hl (k := 1) rfl (by rw [ex6]; rfl) (by decide) rfl (fun ls hl => ?_)
      refine lv_goto (tgt := 2) hx hb dX9_take_25 (by decide) ?_
      exact ih x6 S4 h _ _ _ hW hS (lv_sub hl [1, 0] rfl)
set_option maxHeartbeats 4000000 in
set_option maxRecDepth 100000 in
theorem c_X9_take (l : Launch) (D : va_G) (a : Nat → Nat) (cs : zx_C) (fu : Nat)   (S : St) (r9 : Int32) (S9 : St) (h : f_X9_take fu  S = some (r9, S9)) : Met l yX9_take (Cond.code yX9_take cX9_take 2 (some (.int)) :: zx_tb) ({ frames := 0, cells := 0, slots := 0, locals := 0 }) (zx_P D a cs [.ref (a 43)] S) (zx_Qi D a cs r9 S9) 0 0 (zx_A a) := by
  refine zx_met (own := RX9) (by decide) (Nat.le_of_ble_eq_true rfl) rfl ?_
  intro p e s m below meth c ls F hr hW hS hl
  have hl : lv_has ls 2 [(0, .ref (a 43))] := hl
  obtain ⟨⟨hx, hb, hml, hown, hts⟩, hlk, hK, hJ, hN⟩ := id F
  unfold f_X9_take at h
  refine lv_iconst (v := 0) hx hb dX9_take_0 (by decide) ?_
  refine lv_istore_n (lv' := [(1, .int (0 : Int32)), (0, .ref (a 43))]) hx hb dX9_take_1 rfl hl (by decide) rfl (fun ls hl => ?_)
  exact k_X9_take_L2  F hr   fu (0 : Int32) S h _ _ _ hW hS (lv_sub hl [1, 0] rfl)
theorem Y_X9_unpack : zx_Y yX9_unpack cX9_unpack 4 (some (.int)) 1 := ⟨wc_X9_unpack, wn_X9, by decide, by decide, by decide +kernel⟩
set_option maxHeartbeats 4000000 in
set_option maxRecDepth 100000 in
theorem k_X9_unpack_L94 {l : Launch} {D : va_G} {a : Nat → Nat} {cs : zx_C} {p : Program} {e : Env} {s : State} {m : MethodId} {below : List Frame} {meth : Method} {c : Code} {fu : Nat} {p0 : Int32}  (F : zx_F D a cs p m c cX9_unpack 4 s ([.ref (a 43), .int p0] : List Value).toArray RX9 meth) (hr : meth.sig.returnType = (some (.int))) {r9 : Int32} {S9 : St}    : ∀ (n : Nat) (v3 : Int32) (S : St), f_X9_unpack_L94 fu p0   n v3 S = some (r9, S9) → ∀ (H : Heap) (locs : List Loc) (ls : Array Slot), zx_W D a cs S H → va_S (zx_A a) s.heap H locs → lv_has ls 4 [(0, .ref (a 43)), (3, .int v3)] → W p l e ({ frames := 5, cells := 0, slots := 0, locals := 127 }) s m ([.ref (a 43), .int p0] : List Value).toArray below meth c H locs 0 0 (MQ below (zx_Qi D a cs r9 S9) ([.ref (a 43), .int p0] : List Value).toArray s 0 0 (zx_A a)) (F0 m 94 ls []) := by
  obtain ⟨⟨hx, hb, hml, hown, hts⟩, hlk, hK, hJ, hN⟩ := id F
  intro n
  induction n with
  | zero =>
    intro v3 S h
    exact absurd h (fun q => by cases q)
  | succ n ih =>
    intro v3 S h H locs ls hW hS hl
    rw [f_X9_unpack_L94_s] at h
    refine lv_iload_n hx hb dX9_unpack_94 rfl (lv_at hl 1 rfl) ?_
    refine lv_aload_n hx hb dX9_unpack_95 rfl (lv_at hl 0 rfl) ?_
    refine zx_get (C := RX9) (T := TX9) (N := 35) F hW wu_X9 (by decide) zx_E43 rfl 30 (by decide) wf_X9_201 rfl dX9_unpack_96 ?_
    refine lv_icmp_ge (tgt := 120) hx hb dX9_unpack_99 (by decide) (fun c16 => ?_) (fun c16 => ?_)
    · have h := g_t c16 h
      refine lv_aload_n hx hb dX9_unpack_120 rfl (lv_at hl 0 rfl) ?_
      refine lv_aload_n hx hb dX9_unpack_121 rfl (lv_at hl 0 rfl) ?_
      refine zx_get (C := RX9) (T := TX9) (N := 35) F hW wu_X9 (by decide) zx_E43 rfl 30 (by decide) wf_X9_201 rfl dX9_unpack_122 ?_
      obtain ⟨S17, eS17, h⟩ := g_pin h
      refine zx_putv (C := RX9) (T := TX9) (N := 35) F hW hS wu_X9 tyX9_ok nmX9 (by decide) zx_E43 rfl 3 (by decide) wf_X9_73 rfl (S 43 30) rfl rfl (Nat.le_of_ble_eq_true rfl) rfl dX9_unpack_125 (fun H locs hW hS => ?_)
      have hW : zx_W D a cs S17 H := by rw [eS17]; exact hW
      refine lv_aload_n hx hb dX9_unpack_128 rfl (lv_at hl 0 rfl) ?_
      obtain ⟨r18, S19, h20, h⟩ := g_bd h
      refine zx_cv (zx_runV (q := (RX9, TX9, 35)) (As := []) (rest := []) F hW (c_X9_tells l D a cs fu   S17 r18 S19 h20) Y_X9_tells wi_X9_tells ws_X9_tells wm_X9_166 ⟨rfl, rfl, Nat.le_of_ble_eq_true rfl, Nat.le_of_ble_eq_true rfl, Nat.le_of_ble_eq_true rfl, Nat.le_of_ble_eq_true rfl⟩ (by decide) zx_E43 rfl rfl hl.1 rfl (Nat.le_of_ble_eq_true rfl) dX9_unpack_129) hS (fun H locs hW hS => ?_)
      refine lv_aload_n hx hb dX9_unpack_132 rfl (lv_at hl 0 rfl) ?_
      refine zx_get (C := RX9) (T := TX9) (N := 35) F hW wu_X9 (by decide) zx_E43 rfl 30 (by decide) wf_X9_201 rfl dX9_unpack_133 ?_
      exact zx_ri F hr hW hS h dX9_unpack_136
    · have h := g_f c16 h
      refine lv_aload_n hx hb dX9_unpack_102 rfl (lv_at hl 0 rfl) ?_
      refine zx_get (C := RX9) (T := TX9) (N := 35) F hW wu_X9 (by decide) zx_E43 rfl 2 (by decide) wf_X9_13 rfl dX9_unpack_103 ?_
      refine lv_iload_n hx hb dX9_unpack_106 rfl (lv_at hl 1 rfl) ?_
      refine lv_aload_n hx hb dX9_unpack_107 rfl (lv_at hl 0 rfl) ?_
      refine zx_get (C := RX9) (T := TX9) (N := 35) F hW wu_X9 (by decide) zx_E43 rfl 34 (by decide) wf_X9_67 rfl dX9_unpack_108 ?_
      refine lv_iload_n hx hb dX9_unpack_111 rfl (lv_at hl 1 rfl) ?_
      obtain ⟨c21, h⟩ := g_no h
      refine zx_iald (n := 1400) F hW (by decide) zx_E61 c21 dX9_unpack_112 ?_
      obtain ⟨c23, h⟩ := g_no h
      obtain ⟨S22, eS22, h⟩ := g_pin h
      refine zx_iast (n := 4000) F hW hS (by decide) (fun f => zx_E45) c23 dX9_unpack_113 (fun H locs hW hS => ?_)
      have hW : zx_W D a cs S22 H := by rw [eS22]; exact hW
      obtain ⟨x24, ex24, h⟩ := g_pin h
      refine lv_iinc (v := x24) (lv' := [(3, .int x24), (0, .ref (a 43))]) hx hb dX9_unpack_114 hl (k := 1) rfl (by rw [ex24]; rfl) (by decide) rfl (fun ls hl => ?_)
      refine lv_goto (tgt := 94) hx hb dX9_unpack_117 (by decide) ?_
      exact ih x24 S22 h _ _ _ hW hS (lv_sub hl [1, 0] rfl)
set_option maxHeartbeats 4000000 in
set_option maxRecDepth 100000 in
theorem k_X9_unpack_L52 {l : Launch} {D : va_G} {a : Nat → Nat} {cs : zx_C} {p : Program} {e : Env} {s : State} {m : MethodId} {below : List Frame} {meth : Method} {c : Code} {fu : Nat} {p0 : Int32}  (F : zx_F D a cs p m c cX9_unpack 4 s ([.ref (a 43), .int p0] : List Value).toArray RX9 meth) (hr : meth.sig.returnType = (some (.int))) {r9 : Int32} {S9 : St}    : ∀ (n : Nat) (v1 : Int32) (v3 : Int32) (S : St), f_X9_unpack_L52 fu p0   n v1 v3 S = some (r9, S9) → ∀ (H : Heap) (locs : List Loc) (ls : Array Slot), zx_W D a cs S H → va_S (zx_A a) s.heap H locs → lv_has ls 4 [(0, .ref (a 43)), (1, .int v1), (3, .int v3)] → W p l e ({ frames := 5, cells := 0, slots := 0, locals := 127 }) s m ([.ref (a 43), .int p0] : List Value).toArray below meth c H locs 0 0 (MQ below (zx_Qi D a cs r9 S9) ([.ref (a 43), .int p0] : List Value).toArray s 0 0 (zx_A a)) (F0 m 52 ls []) := by
  obtain ⟨⟨hx, hb, hml, hown, hts⟩, hlk, hK, hJ, hN⟩ := id F
  intro n
  induction n with
  | zero =>
    intro v1 v3 S h
    exact absurd h (fun q => by cases q)
  | succ n ih =>
    intro v1 v3 S h H locs ls hW hS hl
    rw [f_X9_unpack_L52_s] at h
    refine lv_iload_n hx hb dX9_unpack_52 rfl (lv_at hl 2 rfl) ?_
    refine lv_sipush (v := 256) hx hb dX9_unpack_53 (by decide) ?_
    refine lv_icmp_ge (tgt := 87) hx hb dX9_unpack_56 (by decide) (fun c12 => ?_) (fun c12 => ?_)
    · have h := g_t c12 h
      refine lv_aload_n hx hb dX9_unpack_87 rfl (lv_at hl 0 rfl) ?_
      refine lv_iload_n hx hb dX9_unpack_88 rfl (lv_at hl 1 rfl) ?_
      obtain ⟨r13, S14, h15, h⟩ := g_bd h
      refine zx_cv (zx_runV (q := (RX9, TX9, 35)) (As := [.int v1]) (rest := []) F hW (c_X9_begin l D a cs fu v1  S r13 S14 h15) Y_X9_begin wi_X9_begin ws_X9_begin wm_X9_80 ⟨rfl, rfl, Nat.le_of_ble_eq_true rfl, Nat.le_of_ble_eq_true rfl, Nat.le_of_ble_eq_true rfl, Nat.le_of_ble_eq_true rfl⟩ (by decide) zx_E43 rfl rfl hl.1 rfl (Nat.le_of_ble_eq_true rfl) dX9_unpack_89) hS (fun H locs hW hS => ?_)
      refine lv_iconst (v := 0) hx hb dX9_unpack_92 (by decide) ?_
      refine lv_istore_n (lv' := [(3, .int (0 : Int32)), (0, .ref (a 43)), (1, .int v1)]) hx hb dX9_unpack_93 rfl hl (by decide) rfl (fun ls hl => ?_)
      exact k_X9_unpack_L94  F hr   fu (0 : Int32) S14 h _ _ _ hW hS (lv_sub hl [1, 0] rfl)
    · have h := g_f c12 h
      refine lv_aload_n hx hb dX9_unpack_59 rfl (lv_at hl 0 rfl) ?_
      refine zx_get (C := RX9) (T := TX9) (N := 35) F hW wu_X9 (by decide) zx_E43 rfl 5 (by decide) wf_X9_19 rfl dX9_unpack_60 ?_
      refine lv_sipush (v := 256) hx hb dX9_unpack_63 (by decide) ?_
      refine lv_iload_n hx hb dX9_unpack_66 rfl (lv_at hl 1 rfl) ?_
      refine lv_imul hx hb dX9_unpack_67 ?_
      refine lv_iload_n hx hb dX9_unpack_68 rfl (lv_at hl 2 rfl) ?_
      refine lv_iadd hx hb dX9_unpack_69 ?_
      refine lv_aload_n hx hb dX9_unpack_70 rfl (lv_at hl 0 rfl) ?_
      refine zx_get (C := RX9) (T := TX9) (N := 35) F hW wu_X9 (by decide) zx_E43 rfl 5 (by decide) wf_X9_19 rfl dX9_unpack_71 ?_
      refine lv_sipush (v := 1536) hx hb dX9_unpack_74 (by decide) ?_
      refine lv_iload_n hx hb dX9_unpack_77 rfl (lv_at hl 2 rfl) ?_
      refine lv_iadd hx hb dX9_unpack_78 ?_
      obtain ⟨c25, h⟩ := g_no h
      refine zx_iald (n := 1792) F hW (by decide) zx_E47 c25 dX9_unpack_79 ?_
      obtain ⟨c27, h⟩ := g_no h
      obtain ⟨S26, eS26, h⟩ := g_pin h
      refine zx_iast (n := 1792) F hW hS (by decide) (fun f => zx_E47) c27 dX9_unpack_80 (fun H locs hW hS => ?_)
      have hW : zx_W D a cs S26 H := by rw [eS26]; exact hW
      obtain ⟨x28, ex28, h⟩ := g_pin h
      refine lv_iinc (v := x28) (lv' := [(3, .int x28), (0, .ref (a 43)), (1, .int v1)]) hx hb dX9_unpack_81 hl (k := 2) rfl (by rw [ex28]; rfl) (by decide) rfl (fun ls hl => ?_)
      refine lv_goto (tgt := 52) hx hb dX9_unpack_84 (by decide) ?_
      exact ih v1 x28 S26 h _ _ _ hW hS (lv_sub hl [1, 2, 0] rfl)
set_option maxHeartbeats 4000000 in
set_option maxRecDepth 100000 in
theorem c_X9_unpack (l : Launch) (D : va_G) (a : Nat → Nat) (cs : zx_C) (fu : Nat) (p0 : Int32)  (S : St) (r9 : Int32) (S9 : St) (h : f_X9_unpack fu p0 S = some (r9, S9)) : Met l yX9_unpack (Cond.code yX9_unpack cX9_unpack 4 (some (.int)) :: zx_tb) ({ frames := 5, cells := 0, slots := 0, locals := 127 }) (zx_P D a cs [.ref (a 43), .int p0] S) (zx_Qi D a cs r9 S9) 0 0 (zx_A a) := by
  refine zx_met (own := RX9) (by decide) (Nat.le_of_ble_eq_true rfl) rfl ?_
  intro p e s m below meth c ls F hr hW hS hl
  have hl : lv_has ls 4 [(0, .ref (a 43)), (1, .int p0)] := hl
  obtain ⟨⟨hx, hb, hml, hown, hts⟩, hlk, hK, hJ, hN⟩ := id F
  unfold f_X9_unpack at h
  refine lv_iload_n hx hb dX9_unpack_0 rfl (lv_at hl 1 rfl) ?_
  refine lv_if_lt (tgt := 9) hx hb dX9_unpack_1 (by decide) (fun c1 => ?_) (fun c1 => ?_)
  · have h := g_t c1 h
    refine lv_iconst (v := -1) hx hb dX9_unpack_9 (by decide) ?_
    exact zx_ri F hr hW hS h dX9_unpack_10
  · have h := g_f c1 h
    refine lv_iload_n hx hb dX9_unpack_4 rfl (lv_at hl 1 rfl) ?_
    refine lv_iconst (v := 5) hx hb dX9_unpack_5 (by decide) ?_
    refine lv_icmp_le (tgt := 11) hx hb dX9_unpack_6 (by decide) (fun c2 => ?_) (fun c2 => ?_)
    · have h := g_t c2 h
      refine lv_aload_n hx hb dX9_unpack_11 rfl (lv_at hl 0 rfl) ?_
      refine lv_iconst (v := 0) hx hb dX9_unpack_12 (by decide) ?_
      obtain ⟨S3, eS3, h⟩ := g_pin h
      refine zx_putv (C := RX9) (T := TX9) (N := 35) F hW hS wu_X9 tyX9_ok nmX9 (by decide) zx_E43 rfl 16 (by decide) wf_X9_170 rfl (0 : Int32) rfl rfl (Nat.le_of_ble_eq_true rfl) rfl dX9_unpack_13 (fun H locs hW hS => ?_)
      have hW : zx_W D a cs S3 H := by rw [eS3]; exact hW
      refine lv_aload_n hx hb dX9_unpack_16 rfl (lv_at hl 0 rfl) ?_
      refine lv_iconst (v := -1) hx hb dX9_unpack_17 (by decide) ?_
      obtain ⟨S4, eS4, h⟩ := g_pin h
      refine zx_putv (C := RX9) (T := TX9) (N := 35) F hW hS wu_X9 tyX9_ok nmX9 (by decide) zx_E43 rfl 17 (by decide) wf_X9_51 rfl (-1 : Int32) rfl rfl (Nat.le_of_ble_eq_true rfl) rfl dX9_unpack_18 (fun H locs hW hS => ?_)
      have hW : zx_W D a cs S4 H := by rw [eS4]; exact hW
      refine lv_aload_n hx hb dX9_unpack_21 rfl (lv_at hl 0 rfl) ?_
      obtain ⟨r5, S6, h7, h⟩ := g_bd h
      refine zx_ci (zx_runV (q := (RX9, TX9, 35)) (As := []) (rest := []) F hW (c_X9_reads l D a cs fu   S4 r5 S6 h7) Y_X9_reads wi_X9_reads ws_X9_reads wm_X9_220 ⟨rfl, rfl, Nat.le_of_ble_eq_true rfl, Nat.le_of_ble_eq_true rfl, Nat.le_of_ble_eq_true rfl, Nat.le_of_ble_eq_true rfl⟩ (by decide) zx_E43 rfl rfl hl.1 rfl (Nat.le_of_ble_eq_true rfl) dX9_unpack_22) hS (fun H locs hW hS => ?_)
      refine lv_istore_n (lv' := [(2, .int r5), (0, .ref (a 43)), (1, .int p0)]) hx hb dX9_unpack_25 rfl hl (by decide) rfl (fun ls hl => ?_)
      refine lv_aload_n hx hb dX9_unpack_26 rfl (lv_at hl 1 rfl) ?_
      refine lv_iconst (v := 0) hx hb dX9_unpack_27 (by decide) ?_
      obtain ⟨S8, eS8, h⟩ := g_pin h
      refine zx_putv (C := RX9) (T := TX9) (N := 35) F hW hS wu_X9 tyX9_ok nmX9 (by decide) zx_E43 rfl 1 (by decide) wf_X9_70 rfl (0 : Int32) rfl rfl (Nat.le_of_ble_eq_true rfl) rfl dX9_unpack_28 (fun H locs hW hS => ?_)
      have hW : zx_W D a cs S8 H := by rw [eS8]; exact hW
      refine lv_iload_n hx hb dX9_unpack_31 rfl (lv_at hl 0 rfl) ?_
      refine lv_if_ne (tgt := 37) hx hb dX9_unpack_32 (by decide) (fun c9 => ?_) (fun c9 => ?_)
      · have h := g_f c9 h
        refine lv_aload_n hx hb dX9_unpack_37 rfl (lv_at hl 1 rfl) ?_
        refine zx_get (C := RX9) (T := TX9) (N := 35) F hW wu_X9 (by decide) zx_E43 rfl 4 (by decide) wf_X9_16 rfl dX9_unpack_38 ?_
        refine lv_iload_n hx hb dX9_unpack_41 rfl (lv_at hl 2 rfl) ?_
        refine lv_aload_n hx hb dX9_unpack_42 rfl (lv_at hl 1 rfl) ?_
        refine zx_get (C := RX9) (T := TX9) (N := 35) F hW wu_X9 (by decide) zx_E43 rfl 4 (by decide) wf_X9_16 rfl dX9_unpack_43 ?_
        refine lv_bipush (v := 6) hx hb dX9_unpack_46 (by decide) ?_
        refine zx_iald (n := 7) F hW (by decide) zx_E46 (by unfold vp_in; decide) dX9_unpack_48 ?_
        refine zx_nm (z := (S8 46 6)) rfl ?_
        obtain ⟨c11, h⟩ := g_no h
        obtain ⟨S10, eS10, h⟩ := g_pin h
        refine zx_iast (n := 7) F hW hS (by decide) (fun f => zx_E46) c11 dX9_unpack_49 (fun H locs hW hS => ?_)
        have hW : zx_W D a cs S10 H := by rw [eS10]; exact hW
        refine lv_iconst (v := 0) hx hb dX9_unpack_50 (by decide) ?_
        refine lv_istore_n (lv' := [(3, .int (0 : Int32)), (2, .int r5), (0, .ref (a 43)), (1, .int p0)]) hx hb dX9_unpack_51 rfl hl (by decide) rfl (fun ls hl => ?_)
        exact k_X9_unpack_L52  F hr   fu p0 (0 : Int32) S10 h _ _ _ hW hS (lv_sub hl [2, 3, 0] rfl)
      · have h := g_t c9 h
        refine lv_iconst (v := -1) hx hb dX9_unpack_35 (by decide) ?_
        exact zx_ri F hr hW hS h dX9_unpack_36
    · have h := g_f c2 h
      refine lv_iconst (v := -1) hx hb dX9_unpack_9 (by decide) ?_
      exact zx_ri F hr hW hS h dX9_unpack_10
theorem Y_X9_written : zx_Y yX9_written cX9_written 2 (some (.int)) 1 := ⟨wc_X9_written, wn_X9, by decide, by decide, by decide +kernel⟩
set_option maxHeartbeats 4000000 in
set_option maxRecDepth 100000 in
theorem c_X9_written (l : Launch) (D : va_G) (a : Nat → Nat) (cs : zx_C) (p0 : Int32)  (S : St) (r9 : Int32) (S9 : St) (h : f_X9_written p0 S = some (r9, S9)) : Met l yX9_written (Cond.code yX9_written cX9_written 2 (some (.int)) :: zx_tb) ({ frames := 0, cells := 0, slots := 0, locals := 0 }) (zx_P D a cs [.ref (a 43), .int p0] S) (zx_Qi D a cs r9 S9) 0 0 (zx_A a) := by
  refine zx_met (own := RX9) (by decide) (Nat.le_of_ble_eq_true rfl) rfl ?_
  intro p e s m below meth c ls F hr hW hS hl
  have hl : lv_has ls 2 [(0, .ref (a 43)), (1, .int p0)] := hl
  obtain ⟨⟨hx, hb, hml, hown, hts⟩, hlk, hK, hJ, hN⟩ := id F
  unfold f_X9_written at h
  refine lv_iload_n hx hb dX9_written_0 rfl (lv_at hl 1 rfl) ?_
  refine lv_if_lt (tgt := 12) hx hb dX9_written_1 (by decide) (fun c1 => ?_) (fun c1 => ?_)
  · have h := g_t c1 h
    refine lv_iconst (v := -1) hx hb dX9_written_12 (by decide) ?_
    refine lv_goto (tgt := 22) hx hb dX9_written_13 (by decide) ?_
    exact zx_ri F hr hW hS h dX9_written_22
  · have h := g_f c1 h
    refine lv_iload_n hx hb dX9_written_4 rfl (lv_at hl 1 rfl) ?_
    refine lv_aload_n hx hb dX9_written_5 rfl (lv_at hl 0 rfl) ?_
    refine zx_get (C := RX9) (T := TX9) (N := 35) F hW wu_X9 (by decide) zx_E43 rfl 3 (by decide) wf_X9_73 rfl dX9_written_6 ?_
    refine lv_icmp_lt (tgt := 16) hx hb dX9_written_9 (by decide) (fun c2 => ?_) (fun c2 => ?_)
    · have h := g_t c2 h
      refine lv_aload_n hx hb dX9_written_16 rfl (lv_at hl 0 rfl) ?_
      refine zx_get (C := RX9) (T := TX9) (N := 35) F hW wu_X9 (by decide) zx_E43 rfl 2 (by decide) wf_X9_13 rfl dX9_written_17 ?_
      refine lv_iload_n hx hb dX9_written_20 rfl (lv_at hl 1 rfl) ?_
      obtain ⟨c3, h⟩ := g_no h
      refine zx_iald (n := 4000) F hW (by decide) zx_E45 c3 dX9_written_21 ?_
      exact zx_ri F hr hW hS h dX9_written_22
    · have h := g_f c2 h
      refine lv_iconst (v := -1) hx hb dX9_written_12 (by decide) ?_
      refine lv_goto (tgt := 22) hx hb dX9_written_13 (by decide) ?_
      exact zx_ri F hr hW hS h dX9_written_22

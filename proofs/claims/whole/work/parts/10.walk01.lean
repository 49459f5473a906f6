theorem Y_X5_layEven : zx_Y yX5_layEven cX5_layEven 3 none 0 := ⟨wc_X5_layEven, wn_X5, by decide, by decide, by decide +kernel⟩
set_option maxHeartbeats 4000000 in
set_option maxRecDepth 100000 in
theorem k_X5_layEven_L161 {l : Launch} {D : va_G} {a : Nat → Nat} {cs : zx_C} {p : Program} {e : Env} {s : State} {m : MethodId} {below : List Frame} {meth : Method} {c : Code} {fu : Nat}   (F : zx_F D a cs p m c cX5_layEven 3 s ([.ref (a 9)] : List Value).toArray RX5 meth) (hr : meth.sig.returnType = none) {r9 : Int32} {S9 : St} {K81 : Int32 → St → Option (Int32 × St)} (hK81 : ∀ (v1 : Int32) (S : St), K81 v1 S = some (r9, S9) → ∀ (H : Heap) (locs : List Loc) (ls : Array Slot), zx_W D a cs S H → va_S (zx_A a) s.heap H locs → lv_has ls 3 [(0, .ref (a 9)), (1, .int v1)] → W p l e ({ frames := 2, cells := 0, slots := 0, locals := 49 }) s m ([.ref (a 9)] : List Value).toArray below meth c H locs 0 0 (MQ below (zx_Qv D a cs S9) ([.ref (a 9)] : List Value).toArray s 0 0 (zx_A a)) (F0 m 81 ls []))  (v1 : Int32) (S : St) (h : f_X5_layEven_L161 fu  K81  v1 S = some (r9, S9)) (H : Heap) (locs : List Loc) (ls : Array Slot) (hW : zx_W D a cs S H) (hS : va_S (zx_A a) s.heap H locs) (hl : lv_has ls 3 [(0, .ref (a 9)), (1, .int v1)]) : W p l e ({ frames := 2, cells := 0, slots := 0, locals := 49 }) s m ([.ref (a 9)] : List Value).toArray below meth c H locs 0 0 (MQ below (zx_Qv D a cs S9) ([.ref (a 9)] : List Value).toArray s 0 0 (zx_A a)) (F0 m 161 ls []) := by
  obtain ⟨⟨hx, hb, hml, hown, hts⟩, hlk, hK, hJ, hN⟩ := id F
  unfold f_X5_layEven_L161 at h
  refine lv_aload_n hx hb dX5_layEven_161 rfl (lv_at hl 0 rfl) ?_
  refine lv_iconst (v := 0) hx hb dX5_layEven_162 (by decide) ?_
  obtain ⟨r18, S19, h20, h⟩ := g_bd h
  refine zx_cv (zx_runV (q := (RX5, TX5, 10)) (As := [.int (0 : Int32)]) (rest := []) F hW (c_X5_sink l D a cs fu (0 : Int32)  S r18 S19 h20) Y_X5_sink wi_X5_sink ws_X5_sink wm_X5_87 ⟨rfl, rfl, Nat.le_of_ble_eq_true rfl, Nat.le_of_ble_eq_true rfl, Nat.le_of_ble_eq_true rfl, Nat.le_of_ble_eq_true rfl⟩ (by decide) zx_E9 rfl rfl hl.1 rfl (Nat.le_of_ble_eq_true rfl) dX5_layEven_163) hS (fun H locs hW hS => ?_)
  obtain ⟨x21, ex21, h⟩ := g_pin h
  refine lv_iinc (v := x21) (lv' := [(1, .int x21), (0, .ref (a 9))]) hx hb dX5_layEven_166 hl (k := 1) rfl (by rw [ex21]; rfl) (by decide) rfl (fun ls hl => ?_)
  refine lv_goto (tgt := 81) hx hb dX5_layEven_169 (by decide) ?_
  exact hK81 x21 S19 h _ _ _ hW hS (lv_sub hl [1, 0] rfl)
set_option maxHeartbeats 4000000 in
set_option maxRecDepth 100000 in
theorem k_X5_layEven_L81 {l : Launch} {D : va_G} {a : Nat → Nat} {cs : zx_C} {p : Program} {e : Env} {s : State} {m : MethodId} {below : List Frame} {meth : Method} {c : Code} {fu : Nat}   (F : zx_F D a cs p m c cX5_layEven 3 s ([.ref (a 9)] : List Value).toArray RX5 meth) (hr : meth.sig.returnType = none) {r9 : Int32} {S9 : St}    : ∀ (n : Nat) (v1 : Int32) (S : St), f_X5_layEven_L81 fu    n v1 S = some (r9, S9) → ∀ (H : Heap) (locs : List Loc) (ls : Array Slot), zx_W D a cs S H → va_S (zx_A a) s.heap H locs → lv_has ls 3 [(0, .ref (a 9)), (1, .int v1)] → W p l e ({ frames := 2, cells := 0, slots := 0, locals := 49 }) s m ([.ref (a 9)] : List Value).toArray below meth c H locs 0 0 (MQ below (zx_Qv D a cs S9) ([.ref (a 9)] : List Value).toArray s 0 0 (zx_A a)) (F0 m 81 ls []) := by
  obtain ⟨⟨hx, hb, hml, hown, hts⟩, hlk, hK, hJ, hN⟩ := id F
  intro n
  induction n with
  | zero =>
    intro v1 S h
    exact absurd h (fun q => by cases q)
  | succ n ih =>
    intro v1 S h H locs ls hW hS hl
    rw [f_X5_layEven_L81_s] at h
    refine lv_iload_n hx hb dX5_layEven_81 rfl (lv_at hl 1 rfl) ?_
    refine lv_aload_n hx hb dX5_layEven_82 rfl (lv_at hl 0 rfl) ?_
    refine zx_get (C := RX5) (T := TX5) (N := 10) F hW wu_X5 (by decide) zx_E9 rfl 7 (by decide) wf_X5_34 rfl dX5_layEven_83 ?_
    refine lv_icmp_ge (tgt := 172) hx hb dX5_layEven_86 (by decide) (fun c8 => ?_) (fun c8 => ?_)
    · have h := g_t c8 h
      exact zx_rv F hr hW hS h dX5_layEven_172
    · have h := g_f c8 h
      refine lv_aload_n hx hb dX5_layEven_89 rfl (lv_at hl 0 rfl) ?_
      refine zx_get (C := RX5) (T := TX5) (N := 10) F hW wu_X5 (by decide) zx_E9 rfl 5 (by decide) wf_X5_27 rfl dX5_layEven_90 ?_
      refine lv_iconst (v := 0) hx hb dX5_layEven_93 (by decide) ?_
      refine zx_iald (n := 256) F hW (by decide) zx_E15 (by unfold vp_in; decide) dX5_layEven_94 ?_
      refine zx_nm (z := (S 15 0)) rfl ?_
      obtain ⟨x9, ex9, h⟩ := g_pin h
      refine zx_nm ex9 ?_
      refine lv_istore_n (lv' := [(2, .int x9), (0, .ref (a 9)), (1, .int v1)]) hx hb dX5_layEven_95 rfl hl (by decide) rfl (fun ls hl => ?_)
      refine lv_aload_n hx hb dX5_layEven_96 rfl (lv_at hl 1 rfl) ?_
      refine zx_get (C := RX5) (T := TX5) (N := 10) F hW wu_X5 (by decide) zx_E9 rfl 0 (by decide) wf_X5_9 rfl dX5_layEven_97 ?_
      refine lv_iload_n hx hb dX5_layEven_100 rfl (lv_at hl 2 rfl) ?_
      refine lv_iload_n hx hb dX5_layEven_101 rfl (lv_at hl 0 rfl) ?_
      obtain ⟨c11, h⟩ := g_no h
      obtain ⟨S10, eS10, h⟩ := g_pin h
      refine zx_iast (n := 4096) F hW hS (by decide) (fun f => zx_E10) c11 dX5_layEven_102 (fun H locs hW hS => ?_)
      have hW : zx_W D a cs S10 H := by rw [eS10]; exact hW
      refine lv_aload_n hx hb dX5_layEven_103 rfl (lv_at hl 1 rfl) ?_
      refine zx_get (C := RX5) (T := TX5) (N := 10) F hW wu_X5 (by decide) zx_E9 rfl 4 (by decide) wf_X5_24 rfl dX5_layEven_104 ?_
      refine lv_iload_n hx hb dX5_layEven_107 rfl (lv_at hl 0 rfl) ?_
      refine lv_dup2_11 hx hb dX5_layEven_108 rfl rfl ?_
      obtain ⟨c12, h⟩ := g_no h
      refine zx_iald (n := 256) F hW (by decide) zx_E14 c12 dX5_layEven_109 ?_
      refine lv_iconst (v := 1) hx hb dX5_layEven_110 (by decide) ?_
      refine lv_iadd hx hb dX5_layEven_111 ?_
      obtain ⟨c14, h⟩ := g_no h
      obtain ⟨S13, eS13, h⟩ := g_pin h
      refine zx_iast (n := 256) F hW hS (by decide) (fun f => zx_E14) c14 dX5_layEven_112 (fun H locs hW hS => ?_)
      have hW : zx_W D a cs S13 H := by rw [eS13]; exact hW
      refine lv_aload_n hx hb dX5_layEven_113 rfl (lv_at hl 1 rfl) ?_
      refine zx_get (C := RX5) (T := TX5) (N := 10) F hW wu_X5 (by decide) zx_E9 rfl 4 (by decide) wf_X5_24 rfl dX5_layEven_114 ?_
      refine lv_iload_n hx hb dX5_layEven_117 rfl (lv_at hl 0 rfl) ?_
      obtain ⟨c15, h⟩ := g_no h
      refine zx_iald (n := 256) F hW (by decide) zx_E14 c15 dX5_layEven_118 ?_
      refine lv_aload_n hx hb dX5_layEven_119 rfl (lv_at hl 1 rfl) ?_
      refine zx_get (C := RX5) (T := TX5) (N := 10) F hW wu_X5 (by decide) zx_E9 rfl 2 (by decide) wf_X5_18 rfl dX5_layEven_120 ?_
      refine lv_iload_n hx hb dX5_layEven_123 rfl (lv_at hl 0 rfl) ?_
      obtain ⟨c16, h⟩ := g_no h
      refine zx_iald (n := 256) F hW (by decide) zx_E12 c16 dX5_layEven_124 ?_
      refine lv_icmp_ne (tgt := 161) hx hb dX5_layEven_125 (by decide) (fun c17 => ?_) (fun c17 => ?_)
      · have h := g_f c17 h
        exact k_X5_layEven_L161  F hr ih  v1 S13 h _ _ _ hW hS (lv_sub hl [1, 2] rfl)
      · have h := g_t c17 h
        refine lv_aload_n hx hb dX5_layEven_128 rfl (lv_at hl 1 rfl) ?_
        refine zx_get (C := RX5) (T := TX5) (N := 10) F hW wu_X5 (by decide) zx_E9 rfl 6 (by decide) wf_X5_30 rfl dX5_layEven_129 ?_
        refine lv_iconst (v := 1) hx hb dX5_layEven_132 (by decide) ?_
        refine lv_icmp_le (tgt := 161) hx hb dX5_layEven_133 (by decide) (fun c22 => ?_) (fun c22 => ?_)
        · have h := g_t c22 h
          exact k_X5_layEven_L161  F hr ih  v1 S13 h _ _ _ hW hS (lv_sub hl [1, 2] rfl)
        · have h := g_f c22 h
          refine lv_aload_n hx hb dX5_layEven_136 rfl (lv_at hl 1 rfl) ?_
          refine lv_dup hx hb dX5_layEven_137 rfl ?_
          refine zx_get (C := RX5) (T := TX5) (N := 10) F hW wu_X5 (by decide) zx_E9 rfl 6 (by decide) wf_X5_30 rfl dX5_layEven_138 ?_
          refine lv_iconst (v := 1) hx hb dX5_layEven_141 (by decide) ?_
          refine lv_isub hx hb dX5_layEven_142 ?_
          obtain ⟨S23, eS23, h⟩ := g_pin h
          refine zx_putv (C := RX5) (T := TX5) (N := 10) F hW hS wu_X5 tyX5_ok nmX5 (by decide) zx_E9 rfl 6 (by decide) wf_X5_30 rfl ((S13 9 6) - (1 : Int32)) rfl rfl (Nat.le_of_ble_eq_true rfl) rfl dX5_layEven_143 (fun H locs hW hS => ?_)
          have hW : zx_W D a cs S23 H := by rw [eS23]; exact hW
          refine lv_aload_n hx hb dX5_layEven_146 rfl (lv_at hl 1 rfl) ?_
          refine zx_get (C := RX5) (T := TX5) (N := 10) F hW wu_X5 (by decide) zx_E9 rfl 5 (by decide) wf_X5_27 rfl dX5_layEven_147 ?_
          refine lv_iconst (v := 0) hx hb dX5_layEven_150 (by decide) ?_
          refine lv_aload_n hx hb dX5_layEven_151 rfl (lv_at hl 1 rfl) ?_
          refine zx_get (C := RX5) (T := TX5) (N := 10) F hW wu_X5 (by decide) zx_E9 rfl 5 (by decide) wf_X5_27 rfl dX5_layEven_152 ?_
          refine lv_aload_n hx hb dX5_layEven_155 rfl (lv_at hl 1 rfl) ?_
          refine zx_get (C := RX5) (T := TX5) (N := 10) F hW wu_X5 (by decide) zx_E9 rfl 6 (by decide) wf_X5_30 rfl dX5_layEven_156 ?_
          obtain ⟨c24, h⟩ := g_no h
          refine zx_iald (n := 256) F hW (by decide) zx_E15 c24 dX5_layEven_159 ?_
          obtain ⟨S25, eS25, h⟩ := g_pin h
          refine zx_iast (n := 256) F hW hS (by decide) (fun f => zx_E15) (by unfold vp_in; decide) dX5_layEven_160 (fun H locs hW hS => ?_)
          have hW : zx_W D a cs S25 H := by rw [eS25]; exact hW
          exact k_X5_layEven_L161  F hr ih  v1 S25 h _ _ _ hW hS (lv_sub hl [1, 2] rfl)
set_option maxHeartbeats 4000000 in
set_option maxRecDepth 100000 in
theorem k_X5_layEven_L64 {l : Launch} {D : va_G} {a : Nat → Nat} {cs : zx_C} {p : Program} {e : Env} {s : State} {m : MethodId} {below : List Frame} {meth : Method} {c : Code} {fu : Nat}   (F : zx_F D a cs p m c cX5_layEven 3 s ([.ref (a 9)] : List Value).toArray RX5 meth) (hr : meth.sig.returnType = none) {r9 : Int32} {S9 : St}    : ∀ (n : Nat) (v1 : Int32) (S : St), f_X5_layEven_L64 fu    n v1 S = some (r9, S9) → ∀ (H : Heap) (locs : List Loc) (ls : Array Slot), zx_W D a cs S H → va_S (zx_A a) s.heap H locs → lv_has ls 3 [(0, .ref (a 9)), (1, .int v1)] → W p l e ({ frames := 2, cells := 0, slots := 0, locals := 49 }) s m ([.ref (a 9)] : List Value).toArray below meth c H locs 0 0 (MQ below (zx_Qv D a cs S9) ([.ref (a 9)] : List Value).toArray s 0 0 (zx_A a)) (F0 m 64 ls []) := by
  obtain ⟨⟨hx, hb, hml, hown, hts⟩, hlk, hK, hJ, hN⟩ := id F
  intro n
  induction n with
  | zero =>
    intro v1 S h
    exact absurd h (fun q => by cases q)
  | succ n ih =>
    intro v1 S h H locs ls hW hS hl
    rw [f_X5_layEven_L64_s] at h
    refine lv_iload_n hx hb dX5_layEven_64 rfl (lv_at hl 1 rfl) ?_
    refine lv_if_lt (tgt := 79) hx hb dX5_layEven_65 (by decide) (fun c7 => ?_) (fun c7 => ?_)
    · have h := g_t c7 h
      refine lv_iconst (v := 0) hx hb dX5_layEven_79 (by decide) ?_
      refine lv_istore_n (lv' := [(1, .int (0 : Int32)), (0, .ref (a 9))]) hx hb dX5_layEven_80 rfl hl (by decide) rfl (fun ls hl => ?_)
      exact k_X5_layEven_L81  F hr   fu (0 : Int32) S h _ _ _ hW hS (lv_sub hl [1, 0] rfl)
    · have h := g_f c7 h
      refine lv_aload_n hx hb dX5_layEven_68 rfl (lv_at hl 0 rfl) ?_
      refine lv_iload_n hx hb dX5_layEven_69 rfl (lv_at hl 1 rfl) ?_
      obtain ⟨r26, S27, h28, h⟩ := g_bd h
      refine zx_cv (zx_runV (q := (RX5, TX5, 10)) (As := [.int v1]) (rest := []) F hW (c_X5_sink l D a cs fu v1  S r26 S27 h28) Y_X5_sink wi_X5_sink ws_X5_sink wm_X5_87 ⟨rfl, rfl, Nat.le_of_ble_eq_true rfl, Nat.le_of_ble_eq_true rfl, Nat.le_of_ble_eq_true rfl, Nat.le_of_ble_eq_true rfl⟩ (by decide) zx_E9 rfl rfl hl.1 rfl (Nat.le_of_ble_eq_true rfl) dX5_layEven_70) hS (fun H locs hW hS => ?_)
      obtain ⟨x29, ex29, h⟩ := g_pin h
      refine lv_iinc (v := x29) (lv' := [(1, .int x29), (0, .ref (a 9))]) hx hb dX5_layEven_73 hl (k := 1) rfl (by rw [ex29]; rfl) (by decide) rfl (fun ls hl => ?_)
      refine lv_goto (tgt := 64) hx hb dX5_layEven_76 (by decide) ?_
      exact ih x29 S27 h _ _ _ hW hS (lv_sub hl [1, 0] rfl)
set_option maxHeartbeats 4000000 in
set_option maxRecDepth 100000 in
theorem k_X5_layEven_L51 {l : Launch} {D : va_G} {a : Nat → Nat} {cs : zx_C} {p : Program} {e : Env} {s : State} {m : MethodId} {below : List Frame} {meth : Method} {c : Code} {fu : Nat}   (F : zx_F D a cs p m c cX5_layEven 3 s ([.ref (a 9)] : List Value).toArray RX5 meth) (hr : meth.sig.returnType = none) {r9 : Int32} {S9 : St} {K15 : Int32 → St → Option (Int32 × St)} (hK15 : ∀ (v1 : Int32) (S : St), K15 v1 S = some (r9, S9) → ∀ (H : Heap) (locs : List Loc) (ls : Array Slot), zx_W D a cs S H → va_S (zx_A a) s.heap H locs → lv_has ls 3 [(0, .ref (a 9)), (1, .int v1)] → W p l e ({ frames := 2, cells := 0, slots := 0, locals := 49 }) s m ([.ref (a 9)] : List Value).toArray below meth c H locs 0 0 (MQ below (zx_Qv D a cs S9) ([.ref (a 9)] : List Value).toArray s 0 0 (zx_A a)) (F0 m 15 ls []))  (v1 : Int32) (S : St) (h : f_X5_layEven_L51 fu  K15  v1 S = some (r9, S9)) (H : Heap) (locs : List Loc) (ls : Array Slot) (hW : zx_W D a cs S H) (hS : va_S (zx_A a) s.heap H locs) (hl : lv_has ls 3 [(0, .ref (a 9)), (1, .int v1)]) : W p l e ({ frames := 2, cells := 0, slots := 0, locals := 49 }) s m ([.ref (a 9)] : List Value).toArray below meth c H locs 0 0 (MQ below (zx_Qv D a cs S9) ([.ref (a 9)] : List Value).toArray s 0 0 (zx_A a)) (F0 m 51 ls []) := by
  obtain ⟨⟨hx, hb, hml, hown, hts⟩, hlk, hK, hJ, hN⟩ := id F
  unfold f_X5_layEven_L51 at h
  obtain ⟨x32, ex32, h⟩ := g_pin h
  refine lv_iinc (v := x32) (lv' := [(1, .int x32), (0, .ref (a 9))]) hx hb dX5_layEven_51 hl (k := 1) rfl (by rw [ex32]; rfl) (by decide) rfl (fun ls hl => ?_)
  refine lv_goto (tgt := 15) hx hb dX5_layEven_54 (by decide) ?_
  exact hK15 x32 S h _ _ _ hW hS (lv_sub hl [1, 0] rfl)
set_option maxHeartbeats 4000000 in
set_option maxRecDepth 100000 in
theorem k_X5_layEven_L15 {l : Launch} {D : va_G} {a : Nat → Nat} {cs : zx_C} {p : Program} {e : Env} {s : State} {m : MethodId} {below : List Frame} {meth : Method} {c : Code} {fu : Nat}   (F : zx_F D a cs p m c cX5_layEven 3 s ([.ref (a 9)] : List Value).toArray RX5 meth) (hr : meth.sig.returnType = none) {r9 : Int32} {S9 : St}    : ∀ (n : Nat) (v1 : Int32) (S : St), f_X5_layEven_L15 fu    n v1 S = some (r9, S9) → ∀ (H : Heap) (locs : List Loc) (ls : Array Slot), zx_W D a cs S H → va_S (zx_A a) s.heap H locs → lv_has ls 3 [(0, .ref (a 9)), (1, .int v1)] → W p l e ({ frames := 2, cells := 0, slots := 0, locals := 49 }) s m ([.ref (a 9)] : List Value).toArray below meth c H locs 0 0 (MQ below (zx_Qv D a cs S9) ([.ref (a 9)] : List Value).toArray s 0 0 (zx_A a)) (F0 m 15 ls []) := by
  obtain ⟨⟨hx, hb, hml, hown, hts⟩, hlk, hK, hJ, hN⟩ := id F
  intro n
  induction n with
  | zero =>
    intro v1 S h
    exact absurd h (fun q => by cases q)
  | succ n ih =>
    intro v1 S h H locs ls hW hS hl
    rw [f_X5_layEven_L15_s] at h
    refine lv_iload_n hx hb dX5_layEven_15 rfl (lv_at hl 1 rfl) ?_
    refine lv_sipush (v := 256) hx hb dX5_layEven_16 (by decide) ?_
    refine lv_icmp_ge (tgt := 57) hx hb dX5_layEven_19 (by decide) (fun c5 => ?_) (fun c5 => ?_)
    · have h := g_t c5 h
      refine lv_aload_n hx hb dX5_layEven_57 rfl (lv_at hl 0 rfl) ?_
      refine zx_get (C := RX5) (T := TX5) (N := 10) F hW wu_X5 (by decide) zx_E9 rfl 6 (by decide) wf_X5_30 rfl dX5_layEven_58 ?_
      refine lv_iconst (v := 2) hx hb dX5_layEven_61 (by decide) ?_
      refine lv_idiv hx hb dX5_layEven_62 (by decide) ?_
      obtain ⟨x6, ex6, h⟩ := g_pin h
      refine zx_nm ex6 ?_
      refine lv_istore_n (lv' := [(1, .int x6), (0, .ref (a 9))]) hx hb dX5_layEven_63 rfl hl (by decide) rfl (fun ls hl => ?_)
      exact k_X5_layEven_L64  F hr   fu x6 S h _ _ _ hW hS (lv_sub hl [1, 0] rfl)
    · have h := g_f c5 h
      refine lv_aload_n hx hb dX5_layEven_22 rfl (lv_at hl 0 rfl) ?_
      refine zx_get (C := RX5) (T := TX5) (N := 10) F hW wu_X5 (by decide) zx_E9 rfl 2 (by decide) wf_X5_18 rfl dX5_layEven_23 ?_
      refine lv_iload_n hx hb dX5_layEven_26 rfl (lv_at hl 1 rfl) ?_
      obtain ⟨c30, h⟩ := g_no h
      refine zx_iald (n := 256) F hW (by decide) zx_E12 c30 dX5_layEven_27 ?_
      refine lv_if_le (tgt := 51) hx hb dX5_layEven_28 (by decide) (fun c31 => ?_) (fun c31 => ?_)
      · have h := g_t c31 h
        exact k_X5_layEven_L51  F hr ih  v1 S h _ _ _ hW hS (lv_sub hl [0, 1] rfl)
      · have h := g_f c31 h
        refine lv_aload_n hx hb dX5_layEven_31 rfl (lv_at hl 0 rfl) ?_
        refine zx_get (C := RX5) (T := TX5) (N := 10) F hW wu_X5 (by decide) zx_E9 rfl 5 (by decide) wf_X5_27 rfl dX5_layEven_32 ?_
        refine lv_aload_n hx hb dX5_layEven_35 rfl (lv_at hl 0 rfl) ?_
        refine zx_get (C := RX5) (T := TX5) (N := 10) F hW wu_X5 (by decide) zx_E9 rfl 6 (by decide) wf_X5_30 rfl dX5_layEven_36 ?_
        refine lv_iload_n hx hb dX5_layEven_39 rfl (lv_at hl 1 rfl) ?_
        obtain ⟨c34, h⟩ := g_no h
        obtain ⟨S33, eS33, h⟩ := g_pin h
        refine zx_iast (n := 256) F hW hS (by decide) (fun f => zx_E15) c34 dX5_layEven_40 (fun H locs hW hS => ?_)
        have hW : zx_W D a cs S33 H := by rw [eS33]; exact hW
        refine lv_aload_n hx hb dX5_layEven_41 rfl (lv_at hl 0 rfl) ?_
        refine lv_dup hx hb dX5_layEven_42 rfl ?_
        refine zx_get (C := RX5) (T := TX5) (N := 10) F hW wu_X5 (by decide) zx_E9 rfl 6 (by decide) wf_X5_30 rfl dX5_layEven_43 ?_
        refine lv_iconst (v := 1) hx hb dX5_layEven_46 (by decide) ?_
        refine lv_iadd hx hb dX5_layEven_47 ?_
        obtain ⟨S35, eS35, h⟩ := g_pin h
        refine zx_putv (C := RX5) (T := TX5) (N := 10) F hW hS wu_X5 tyX5_ok nmX5 (by decide) zx_E9 rfl 6 (by decide) wf_X5_30 rfl ((S33 9 6) + (1 : Int32)) rfl rfl (Nat.le_of_ble_eq_true rfl) rfl dX5_layEven_48 (fun H locs hW hS => ?_)
        have hW : zx_W D a cs S35 H := by rw [eS35]; exact hW
        exact k_X5_layEven_L51  F hr ih  v1 S35 h _ _ _ hW hS (lv_sub hl [0, 1] rfl)
set_option maxHeartbeats 4000000 in
set_option maxRecDepth 100000 in
theorem c_X5_layEven (l : Launch) (D : va_G) (a : Nat → Nat) (cs : zx_C) (fu : Nat)   (S : St) (r9 : Int32) (S9 : St) (h : f_X5_layEven fu  S = some (r9, S9)) : Met l yX5_layEven (Cond.code yX5_layEven cX5_layEven 3 none :: zx_tb) ({ frames := 2, cells := 0, slots := 0, locals := 49 }) (zx_P D a cs [.ref (a 9)] S) (zx_Qv D a cs S9) 0 0 (zx_A a) := by
  refine zx_met (own := RX5) (by decide) (Nat.le_of_ble_eq_true rfl) rfl ?_
  intro p e s m below meth c ls F hr hW hS hl
  have hl : lv_has ls 3 [(0, .ref (a 9))] := hl
  obtain ⟨⟨hx, hb, hml, hown, hts⟩, hlk, hK, hJ, hN⟩ := id F
  unfold f_X5_layEven at h
  refine lv_aload_n hx hb dX5_layEven_0 rfl (lv_at hl 0 rfl) ?_
  refine zx_get (C := RX5) (T := TX5) (N := 10) F hW wu_X5 (by decide) zx_E9 rfl 4 (by decide) wf_X5_24 rfl dX5_layEven_1 ?_
  refine lv_iconst (v := 0) hx hb dX5_layEven_4 (by decide) ?_
  obtain ⟨r1, S2, h3, h⟩ := g_bd h
  refine zx_cv (zx_runS (As := [.ref (a 14), .int (0 : Int32)]) (rest := []) F hW (c_J7_fill_53178 l D a cs fu 14 (0 : Int32) (by decide) S r1 S2 h3) Y_J7_fill_53178 wt_J7_fill_53178 wm_X5_81 ⟨rfl, rfl, Nat.le_of_ble_eq_true rfl, Nat.le_of_ble_eq_true rfl, Nat.le_of_ble_eq_true rfl, Nat.le_of_ble_eq_true rfl⟩ rfl hl.1 rfl (Nat.le_of_ble_eq_true rfl) dX5_layEven_5) hS (fun H locs hW hS => ?_)
  refine lv_aload_n hx hb dX5_layEven_8 rfl (lv_at hl 0 rfl) ?_
  refine lv_iconst (v := 0) hx hb dX5_layEven_9 (by decide) ?_
  obtain ⟨S4, eS4, h⟩ := g_pin h
  refine zx_putv (C := RX5) (T := TX5) (N := 10) F hW hS wu_X5 tyX5_ok nmX5 (by decide) zx_E9 rfl 6 (by decide) wf_X5_30 rfl (0 : Int32) rfl rfl (Nat.le_of_ble_eq_true rfl) rfl dX5_layEven_10 (fun H locs hW hS => ?_)
  have hW : zx_W D a cs S4 H := by rw [eS4]; exact hW
  refine lv_iconst (v := 0) hx hb dX5_layEven_13 (by decide) ?_
  refine lv_istore_n (lv' := [(1, .int (0 : Int32)), (0, .ref (a 9))]) hx hb dX5_layEven_14 rfl hl (by decide) rfl (fun ls hl => ?_)
  exact k_X5_layEven_L15  F hr   fu (0 : Int32) S4 h _ _ _ hW hS (lv_sub hl [1, 0] rfl)
theorem Y_X6_shareOf : zx_Y yX6_shareOf cX6_shareOf 2 (some (.int)) 1 := ⟨wc_X6_shareOf, wn_X6, by decide, by decide, by decide +kernel⟩
set_option maxHeartbeats 4000000 in
set_option maxRecDepth 100000 in
theorem c_X6_shareOf (l : Launch) (D : va_G) (a : Nat → Nat) (cs : zx_C) (k : Nat) (p0 : Int32) (hk : zx_tab k = true) (S : St) (r9 : Int32) (S9 : St) (h : f_X6_shareOf k p0 S = some (r9, S9)) : Met l yX6_shareOf (Cond.code yX6_shareOf cX6_shareOf 2 (some (.int)) :: zx_tb) ({ frames := 1, cells := 0, slots := 0, locals := 20 }) (zx_P D a cs [.ref (a k), .int p0] S) (zx_Qi D a cs r9 S9) 0 0 (zx_A a) := by
  refine zx_met (own := RX6) (by decide) (Nat.le_of_ble_eq_true rfl) rfl ?_
  intro p e s m below meth c ls F hr hW hS hl
  have hl : lv_has ls 2 [(0, .ref (a k)), (1, .int p0)] := hl
  obtain ⟨⟨hx, hb, hml, hown, hts⟩, hlk, hK, hJ, hN⟩ := id F
  unfold f_X6_shareOf at h
  refine lv_iload_n hx hb dX6_shareOf_0 rfl (lv_at hl 1 rfl) ?_
  obtain ⟨r1, S2, h3, h⟩ := g_bd h
  refine zx_ci (zx_runSN (As := [.int p0]) (rest := []) F hW (c_X8_isSymbol l D a cs p0  S r1 S2 h3) Y_X8_isSymbol wt_X8_isSymbol wN_X6_19 ⟨rfl, rfl, Nat.le_of_ble_eq_true rfl, Nat.le_of_ble_eq_true rfl, Nat.le_of_ble_eq_true rfl, Nat.le_of_ble_eq_true rfl⟩ rfl hl.1 rfl (Nat.le_of_ble_eq_true rfl) dX6_shareOf_1) hS (fun H locs hW hS => ?_)
  refine lv_if_eq (tgt := 16) hx hb dX6_shareOf_4 (by decide) (fun c4 => ?_) (fun c4 => ?_)
  · have h := g_t c4 h
    refine lv_iconst (v := 0) hx hb dX6_shareOf_16 (by decide) ?_
    exact zx_ri F hr hW hS h dX6_shareOf_17
  · have h := g_f c4 h
    refine lv_aload_n hx hb dX6_shareOf_7 rfl (lv_at hl 0 rfl) ?_
    refine zx_get (C := RX6) (T := TX6) (N := 2) F hW wu_X6 (zx_tab_l hk).1 (zx_tab_E hk) rfl 0 (by decide) wf_X6_9 rfl dX6_shareOf_8 ?_
    refine lv_iload_n hx hb dX6_shareOf_11 rfl (lv_at hl 1 rfl) ?_
    obtain ⟨c5, h⟩ := g_no h
    refine zx_iald (n := 256) F hW (zx_tab_l hk).2 (zx_tab_A hk) c5 dX6_shareOf_12 ?_
    refine lv_goto (tgt := 17) hx hb dX6_shareOf_13 (by decide) ?_
    exact zx_ri F hr hW hS h dX6_shareOf_17
theorem Y_X5_takeShares : zx_Y yX5_takeShares cX5_takeShares 4 none 1 := ⟨wc_X5_takeShares, wn_X5, by decide, by decide, by decide +kernel⟩
set_option maxHeartbeats 4000000 in
set_option maxRecDepth 100000 in
theorem k_X5_takeShares_L4 {l : Launch} {D : va_G} {a : Nat → Nat} {cs : zx_C} {p : Program} {e : Env} {s : State} {m : MethodId} {below : List Frame} {meth : Method} {c : Code} {fu : Nat} {k0 : Nat} (hk0 : zx_tab k0 = true) (F : zx_F D a cs p m c cX5_takeShares 4 s ([.ref (a 9), .ref (a k0)] : List Value).toArray RX5 meth) (hr : meth.sig.returnType = none) {r9 : Int32} {S9 : St}    : ∀ (n : Nat) (v2 : Int32) (v3 : Int32) (S : St), f_X5_takeShares_L4 fu k0   n v2 v3 S = some (r9, S9) → ∀ (H : Heap) (locs : List Loc) (ls : Array Slot), zx_W D a cs S H → va_S (zx_A a) s.heap H locs → lv_has ls 4 [(0, .ref (a 9)), (1, .ref (a k0)), (2, .int v2), (3, .int v3)] → W p l e ({ frames := 2, cells := 0, slots := 0, locals := 41 }) s m ([.ref (a 9), .ref (a k0)] : List Value).toArray below meth c H locs 0 0 (MQ below (zx_Qv D a cs S9) ([.ref (a 9), .ref (a k0)] : List Value).toArray s 0 0 (zx_A a)) (F0 m 4 ls []) := by
  obtain ⟨⟨hx, hb, hml, hown, hts⟩, hlk, hK, hJ, hN⟩ := id F
  intro n
  induction n with
  | zero =>
    intro v2 v3 S h
    exact absurd h (fun q => by cases q)
  | succ n ih =>
    intro v2 v3 S h H locs ls hW hS hl
    rw [f_X5_takeShares_L4_s] at h
    refine lv_iload_n hx hb dX5_takeShares_4 rfl (lv_at hl 3 rfl) ?_
    refine lv_sipush (v := 256) hx hb dX5_takeShares_5 (by decide) ?_
    refine lv_icmp_ge (tgt := 44) hx hb dX5_takeShares_8 (by decide) (fun c1 => ?_) (fun c1 => ?_)
    · have h := g_t c1 h
      exact zx_rv F hr hW hS h dX5_takeShares_44
    · have h := g_f c1 h
      refine lv_aload_n hx hb dX5_takeShares_11 rfl (lv_at hl 0 rfl) ?_
      refine zx_get (C := RX5) (T := TX5) (N := 10) F hW wu_X5 (by decide) zx_E9 rfl 2 (by decide) wf_X5_18 rfl dX5_takeShares_12 ?_
      refine lv_iload_n hx hb dX5_takeShares_15 rfl (lv_at hl 3 rfl) ?_
      refine lv_aload_n hx hb dX5_takeShares_16 rfl (lv_at hl 1 rfl) ?_
      refine lv_iload_n hx hb dX5_takeShares_17 rfl (lv_at hl 3 rfl) ?_
      obtain ⟨r2, S3, h4, h⟩ := g_bd h
      refine zx_ci (zx_runV (q := (RX6, TX6, 2)) (As := [.int v3]) (rest := [.int v3, .ref (a 12)]) F hW (c_X6_shareOf l D a cs k0 v3 hk0 S r2 S3 h4) Y_X6_shareOf wi_X6_shareOf ws_X6_shareOf wm_X5_80 ⟨rfl, rfl, Nat.le_of_ble_eq_true rfl, Nat.le_of_ble_eq_true rfl, Nat.le_of_ble_eq_true rfl, Nat.le_of_ble_eq_true rfl⟩ (zx_tab_l hk0).1 (zx_tab_E hk0) rfl rfl hl.1 rfl (Nat.le_of_ble_eq_true rfl) dX5_takeShares_18) hS (fun H locs hW hS => ?_)
      obtain ⟨c6, h⟩ := g_no h
      obtain ⟨S5, eS5, h⟩ := g_pin h
      refine zx_iast (n := 256) F hW hS (by decide) (fun f => zx_E12) c6 dX5_takeShares_21 (fun H locs hW hS => ?_)
      have hW : zx_W D a cs S5 H := by rw [eS5]; exact hW
      refine lv_aload_n hx hb dX5_takeShares_22 rfl (lv_at hl 0 rfl) ?_
      refine zx_get (C := RX5) (T := TX5) (N := 10) F hW wu_X5 (by decide) zx_E9 rfl 3 (by decide) wf_X5_21 rfl dX5_takeShares_23 ?_
      refine lv_iload_n hx hb dX5_takeShares_26 rfl (lv_at hl 3 rfl) ?_
      refine lv_iload_n hx hb dX5_takeShares_27 rfl (lv_at hl 2 rfl) ?_
      obtain ⟨c8, h⟩ := g_no h
      obtain ⟨S7, eS7, h⟩ := g_pin h
      refine zx_iast (n := 256) F hW hS (by decide) (fun f => zx_E13) c8 dX5_takeShares_28 (fun H locs hW hS => ?_)
      have hW : zx_W D a cs S7 H := by rw [eS7]; exact hW
      refine lv_iload_n hx hb dX5_takeShares_29 rfl (lv_at hl 2 rfl) ?_
      refine lv_aload_n hx hb dX5_takeShares_30 rfl (lv_at hl 0 rfl) ?_
      refine zx_get (C := RX5) (T := TX5) (N := 10) F hW wu_X5 (by decide) zx_E9 rfl 2 (by decide) wf_X5_18 rfl dX5_takeShares_31 ?_
      refine lv_iload_n hx hb dX5_takeShares_34 rfl (lv_at hl 3 rfl) ?_
      obtain ⟨c9, h⟩ := g_no h
      refine zx_iald (n := 256) F hW (by decide) zx_E12 c9 dX5_takeShares_35 ?_
      refine lv_iadd hx hb dX5_takeShares_36 ?_
      obtain ⟨x10, ex10, h⟩ := g_pin h
      refine zx_nm ex10 ?_
      refine lv_istore_n (lv' := [(2, .int x10), (0, .ref (a 9)), (1, .ref (a k0)), (3, .int v3)]) hx hb dX5_takeShares_37 rfl hl (by decide) rfl (fun ls hl => ?_)
      obtain ⟨x11, ex11, h⟩ := g_pin h
      refine lv_iinc (v := x11) (lv' := [(3, .int x11), (2, .int x10), (0, .ref (a 9)), (1, .ref (a k0))]) hx hb dX5_takeShares_38 hl (k := 3) rfl (by rw [ex11]; rfl) (by decide) rfl (fun ls hl => ?_)
      refine lv_goto (tgt := 4) hx hb dX5_takeShares_41 (by decide) ?_
      exact ih x10 x11 S7 h _ _ _ hW hS (lv_sub hl [2, 3, 1, 0] rfl)
set_option maxHeartbeats 4000000 in
set_option maxRecDepth 100000 in
theorem c_X5_takeShares (l : Launch) (D : va_G) (a : Nat → Nat) (cs : zx_C) (fu : Nat) (k0 : Nat) (hk0 : zx_tab k0 = true) (S : St) (r9 : Int32) (S9 : St) (h : f_X5_takeShares fu k0 S = some (r9, S9)) : Met l yX5_takeShares (Cond.code yX5_takeShares cX5_takeShares 4 none :: zx_tb) ({ frames := 2, cells := 0, slots := 0, locals := 41 }) (zx_P D a cs [.ref (a 9), .ref (a k0)] S) (zx_Qv D a cs S9) 0 0 (zx_A a) := by
  refine zx_met (own := RX5) (by decide) (Nat.le_of_ble_eq_true rfl) rfl ?_
  intro p e s m below meth c ls F hr hW hS hl
  have hl : lv_has ls 4 [(0, .ref (a 9)), (1, .ref (a k0))] := hl
  obtain ⟨⟨hx, hb, hml, hown, hts⟩, hlk, hK, hJ, hN⟩ := id F
  unfold f_X5_takeShares at h
  refine lv_iconst (v := 0) hx hb dX5_takeShares_0 (by decide) ?_
  refine lv_istore_n (lv' := [(2, .int (0 : Int32)), (0, .ref (a 9)), (1, .ref (a k0))]) hx hb dX5_takeShares_1 rfl hl (by decide) rfl (fun ls hl => ?_)
  refine lv_iconst (v := 0) hx hb dX5_takeShares_2 (by decide) ?_
  refine lv_istore_n (lv' := [(3, .int (0 : Int32)), (2, .int (0 : Int32)), (0, .ref (a 9)), (1, .ref (a k0))]) hx hb dX5_takeShares_3 rfl hl (by decide) rfl (fun ls hl => ?_)
  exact k_X5_takeShares_L4 hk0 F hr   fu (0 : Int32) (0 : Int32) S h _ _ _ hW hS (lv_sub hl [2, 3, 1, 0] rfl)
theorem Y_X6_places : zx_Y yX6_places cX6_places 1 (some (.int)) 0 := ⟨wc_X6_places, wn_X6, by decide, by decide, by decide +kernel⟩
set_option maxHeartbeats 4000000 in
set_option maxRecDepth 100000 in
theorem c_X6_places (l : Launch) (D : va_G) (a : Nat → Nat) (cs : zx_C) (k : Nat) (hk : zx_tab k = true) (S : St) (r9 : Int32) (S9 : St) (h : f_X6_places k S = some (r9, S9)) : Met l yX6_places (Cond.code yX6_places cX6_places 1 (some (.int)) :: zx_tb) ({ frames := 0, cells := 0, slots := 0, locals := 0 }) (zx_P D a cs [.ref (a k)] S) (zx_Qi D a cs r9 S9) 0 0 (zx_A a) := by
  refine zx_met (own := RX6) (by decide) (Nat.le_of_ble_eq_true rfl) rfl ?_
  intro p e s m below meth c ls F hr hW hS hl
  have hl : lv_has ls 1 [(0, .ref (a k))] := hl
  obtain ⟨⟨hx, hb, hml, hown, hts⟩, hlk, hK, hJ, hN⟩ := id F
  unfold f_X6_places at h
  refine lv_iconst (v := 1) hx hb dX6_places_0 (by decide) ?_
  refine lv_aload_n hx hb dX6_places_1 rfl (lv_at hl 0 rfl) ?_
  refine zx_get (C := RX6) (T := TX6) (N := 2) F hW wu_X6 (zx_tab_l hk).1 (zx_tab_E hk) rfl 1 (by decide) wf_X6_15 rfl dX6_places_2 ?_
  refine lv_ishl hx hb dX6_places_5 ?_
  exact zx_ri F hr hW hS h dX6_places_6
theorem Y_X5_lay : zx_Y yX5_lay cX5_lay 3 none 2 := ⟨wc_X5_lay, wn_X5, by decide, by decide, by decide +kernel⟩
set_option maxHeartbeats 4000000 in
set_option maxRecDepth 100000 in
theorem k_X5_lay_L92 {l : Launch} {D : va_G} {a : Nat → Nat} {cs : zx_C} {p : Program} {e : Env} {s : State} {m : MethodId} {below : List Frame} {meth : Method} {c : Code} {fu : Nat} {k0 : Nat} {p1 : Int32} (hk0 : zx_tab k0 = true) (F : zx_F D a cs p m c cX5_lay 3 s ([.ref (a 9), .ref (a k0), .int p1] : List Value).toArray RX5 meth) (hr : meth.sig.returnType = none) {r9 : Int32} {S9 : St}    (t0 : Int32) (S : St) (h : f_X5_lay_L92 fu k0 p1   t0 S = some (r9, S9)) (H : Heap) (locs : List Loc) (ls : Array Slot) (hW : zx_W D a cs S H) (hS : va_S (zx_A a) s.heap H locs) (hl : lv_has ls 3 [(0, .ref (a 9))]) : W p l e ({ frames := 3, cells := 0, slots := 0, locals := 71 }) s m ([.ref (a 9), .ref (a k0), .int p1] : List Value).toArray below meth c H locs 0 0 (MQ below (zx_Qv D a cs S9) ([.ref (a 9), .ref (a k0), .int p1] : List Value).toArray s 0 0 (zx_A a)) (F0 m 92 ls [.int t0, .ref (a 9)]) := by
  obtain ⟨⟨hx, hb, hml, hown, hts⟩, hlk, hK, hJ, hN⟩ := id F
  unfold f_X5_lay_L92 at h
  obtain ⟨r14, S15, h16, h⟩ := g_bd h
  refine zx_cv (zx_runV (q := (RX5, TX5, 10)) (As := [.int t0]) (rest := []) F hW (c_X5_layByStep l D a cs fu t0  S r14 S15 h16) Y_X5_layByStep wi_X5_layByStep ws_X5_layByStep wm_X5_73 ⟨rfl, rfl, Nat.le_of_ble_eq_true rfl, Nat.le_of_ble_eq_true rfl, Nat.le_of_ble_eq_true rfl, Nat.le_of_ble_eq_true rfl⟩ (by decide) zx_E9 rfl rfl hl.1 rfl (Nat.le_of_ble_eq_true rfl) dX5_lay_92) hS (fun H locs hW hS => ?_)
  refine lv_aload_n hx hb dX5_lay_95 rfl (lv_at hl 0 rfl) ?_
  obtain ⟨r17, S18, h19, h⟩ := g_bd h
  refine zx_cv (zx_runV (q := (RX5, TX5, 10)) (As := []) (rest := []) F hW (c_X5_giveRanks l D a cs fu   S15 r17 S18 h19) Y_X5_giveRanks wi_X5_giveRanks ws_X5_giveRanks wm_X5_77 ⟨rfl, rfl, Nat.le_of_ble_eq_true rfl, Nat.le_of_ble_eq_true rfl, Nat.le_of_ble_eq_true rfl, Nat.le_of_ble_eq_true rfl⟩ (by decide) zx_E9 rfl rfl hl.1 rfl (Nat.le_of_ble_eq_true rfl) dX5_lay_96) hS (fun H locs hW hS => ?_)
  exact zx_rv F hr hW hS h dX5_lay_99
set_option maxHeartbeats 4000000 in
set_option maxRecDepth 100000 in
theorem k_X5_lay_L17 {l : Launch} {D : va_G} {a : Nat → Nat} {cs : zx_C} {p : Program} {e : Env} {s : State} {m : MethodId} {below : List Frame} {meth : Method} {c : Code} {fu : Nat} {k0 : Nat} {p1 : Int32} (hk0 : zx_tab k0 = true) (F : zx_F D a cs p m c cX5_lay 3 s ([.ref (a 9), .ref (a k0), .int p1] : List Value).toArray RX5 meth) (hr : meth.sig.returnType = none) {r9 : Int32} {S9 : St}    (v2 : Int32) (S : St) (h : f_X5_lay_L17 fu k0 p1   v2 S = some (r9, S9)) (H : Heap) (locs : List Loc) (ls : Array Slot) (hW : zx_W D a cs S H) (hS : va_S (zx_A a) s.heap H locs) (hl : lv_has ls 3 [(0, .ref (a 9)), (1, .ref (a k0)), (2, .int v2)]) : W p l e ({ frames := 3, cells := 0, slots := 0, locals := 71 }) s m ([.ref (a 9), .ref (a k0), .int p1] : List Value).toArray below meth c H locs 0 0 (MQ below (zx_Qv D a cs S9) ([.ref (a 9), .ref (a k0), .int p1] : List Value).toArray s 0 0 (zx_A a)) (F0 m 17 ls []) := by
  obtain ⟨⟨hx, hb, hml, hown, hts⟩, hlk, hK, hJ, hN⟩ := id F
  unfold f_X5_lay_L17 at h
  refine lv_aload_n hx hb dX5_lay_17 rfl (lv_at hl 0 rfl) ?_
  refine lv_aload_n hx hb dX5_lay_18 rfl (lv_at hl 1 rfl) ?_
  obtain ⟨S3, eS3, h⟩ := g_pin h
  refine zx_putv (C := RX5) (T := TX5) (N := 10) F hW hS wu_X5 tyX5_ok nmX5 (by decide) zx_E9 rfl 9 (by decide) wf_X5_40 rfl (nI k0) rfl rfl (Nat.le_of_ble_eq_true rfl) (by rw [← zx_rfo_nI (zx_tab_0 hk0) (zx_tab_l hk0).1]; rfl) dX5_lay_19 (fun H locs hW hS => ?_)
  have hW : zx_W D a cs S3 H := by rw [eS3]; exact hW
  refine lv_aload_n hx hb dX5_lay_22 rfl (lv_at hl 0 rfl) ?_
  refine lv_iload_n hx hb dX5_lay_23 rfl (lv_at hl 2 rfl) ?_
  obtain ⟨S4, eS4, h⟩ := g_pin h
  refine zx_putv (C := RX5) (T := TX5) (N := 10) F hW hS wu_X5 tyX5_ok nmX5 (by decide) zx_E9 rfl 8 (by decide) wf_X5_37 rfl v2 rfl rfl (Nat.le_of_ble_eq_true rfl) rfl dX5_lay_24 (fun H locs hW hS => ?_)
  have hW : zx_W D a cs S4 H := by rw [eS4]; exact hW
  refine lv_aload_n hx hb dX5_lay_27 rfl (lv_at hl 0 rfl) ?_
  refine lv_aload_n hx hb dX5_lay_28 rfl (lv_at hl 1 rfl) ?_
  obtain ⟨r5, S6, h7, h⟩ := g_bd h
  refine zx_ci (zx_runV (q := (RX6, TX6, 2)) (As := []) (rest := [.ref (a 9)]) F hW (c_X6_places l D a cs k0 hk0 S4 r5 S6 h7) Y_X6_places wi_X6_places ws_X6_places wm_X5_55 ⟨rfl, rfl, Nat.le_of_ble_eq_true rfl, Nat.le_of_ble_eq_true rfl, Nat.le_of_ble_eq_true rfl, Nat.le_of_ble_eq_true rfl⟩ (zx_tab_l hk0).1 (zx_tab_E hk0) rfl rfl hl.1 rfl (Nat.le_of_ble_eq_true rfl) dX5_lay_29) hS (fun H locs hW hS => ?_)
  refine lv_sipush (v := 4096) hx hb dX5_lay_32 (by decide) ?_
  refine zx_min F hl.1 wm_X5_60 ⟨Nat.le_of_ble_eq_true rfl, Nat.le_of_ble_eq_true rfl⟩ (Nat.le_of_ble_eq_true rfl) dX5_lay_35 ?_
  obtain ⟨S8, eS8, h⟩ := g_pin h
  refine zx_putv (C := RX5) (T := TX5) (N := 10) F hW hS wu_X5 tyX5_ok nmX5 (by decide) zx_E9 rfl 7 (by decide) wf_X5_34 rfl (if (4096 : Int32) < r5 then (4096 : Int32) else r5) rfl rfl (Nat.le_of_ble_eq_true rfl) rfl dX5_lay_38 (fun H locs hW hS => ?_)
  have hW : zx_W D a cs S8 H := by rw [eS8]; exact hW
  refine lv_aload_n hx hb dX5_lay_41 rfl (lv_at hl 0 rfl) ?_
  refine lv_aload_n hx hb dX5_lay_42 rfl (lv_at hl 1 rfl) ?_
  obtain ⟨r9, S10, h11, h⟩ := g_bd h
  refine zx_cv (zx_runV (q := (RX5, TX5, 10)) (As := [.ref (a k0)]) (rest := []) F hW (c_X5_takeShares l D a cs fu k0 hk0 S8 r9 S10 h11) Y_X5_takeShares wi_X5_takeShares ws_X5_takeShares wm_X5_66 ⟨rfl, rfl, Nat.le_of_ble_eq_true rfl, Nat.le_of_ble_eq_true rfl, Nat.le_of_ble_eq_true rfl, Nat.le_of_ble_eq_true rfl⟩ (by decide) zx_E9 rfl rfl hl.1 rfl (Nat.le_of_ble_eq_true rfl) dX5_lay_43) hS (fun H locs hW hS => ?_)
  refine lv_aload_n hx hb dX5_lay_46 rfl (lv_at hl 0 rfl) ?_
  refine zx_get (C := RX5) (T := TX5) (N := 10) F hW wu_X5 (by decide) zx_E9 rfl 8 (by decide) wf_X5_37 rfl dX5_lay_47 ?_
  refine lv_iconst (v := 2) hx hb dX5_lay_50 (by decide) ?_
  refine lv_icmp_ne (tgt := 61) hx hb dX5_lay_51 (by decide) (fun c12 => ?_) (fun c12 => ?_)
  · have h := g_f c12 h
    refine lv_aload_n hx hb dX5_lay_61 rfl (lv_at hl 0 rfl) ?_
    refine lv_aload_n hx hb dX5_lay_62 rfl (lv_at hl 0 rfl) ?_
    refine zx_get (C := RX5) (T := TX5) (N := 10) F hW wu_X5 (by decide) zx_E9 rfl 8 (by decide) wf_X5_37 rfl dX5_lay_63 ?_
    refine lv_iconst (v := 1) hx hb dX5_lay_66 (by decide) ?_
    refine lv_icmp_ne (tgt := 91) hx hb dX5_lay_67 (by decide) (fun c13 => ?_) (fun c13 => ?_)
    · have h := g_f c13 h
      refine lv_iconst (v := 1) hx hb dX5_lay_91 (by decide) ?_
      exact k_X5_lay_L92 hk0 F hr   (1 : Int32) S10 h _ _ _ hW hS (lv_sub hl [0] rfl)
    · have h := g_t c13 h
      refine lv_aload_n hx hb dX5_lay_70 rfl (lv_at hl 0 rfl) ?_
      refine zx_get (C := RX5) (T := TX5) (N := 10) F hW wu_X5 (by decide) zx_E9 rfl 7 (by decide) wf_X5_34 rfl dX5_lay_71 ?_
      refine lv_iconst (v := 2) hx hb dX5_lay_74 (by decide) ?_
      refine lv_idiv hx hb dX5_lay_75 (by decide) ?_
      refine lv_aload_n hx hb dX5_lay_76 rfl (lv_at hl 0 rfl) ?_
      refine zx_get (C := RX5) (T := TX5) (N := 10) F hW wu_X5 (by decide) zx_E9 rfl 7 (by decide) wf_X5_34 rfl dX5_lay_77 ?_
      refine lv_bipush (v := 8) hx hb dX5_lay_80 (by decide) ?_
      refine lv_idiv hx hb dX5_lay_82 (by decide) ?_
      refine lv_iadd hx hb dX5_lay_83 ?_
      refine lv_iconst (v := 3) hx hb dX5_lay_84 (by decide) ?_
      refine lv_iadd hx hb dX5_lay_85 ?_
      refine lv_iconst (v := 1) hx hb dX5_lay_86 (by decide) ?_
      refine lv_ior hx hb dX5_lay_87 ?_
      refine lv_goto (tgt := 92) hx hb dX5_lay_88 (by decide) ?_
      exact k_X5_lay_L92 hk0 F hr   (((((S10 9 7) / (2 : Int32)) + ((S10 9 7) / (8 : Int32))) + (3 : Int32)) ||| (1 : Int32)) S10 h _ _ _ hW hS (lv_sub hl [0] rfl)
  · have h := g_t c12 h
    refine lv_aload_n hx hb dX5_lay_54 rfl (lv_at hl 0 rfl) ?_
    obtain ⟨r20, S21, h22, h⟩ := g_bd h
    refine zx_cv (zx_runV (q := (RX5, TX5, 10)) (As := []) (rest := []) F hW (c_X5_layEven l D a cs fu   S10 r20 S21 h22) Y_X5_layEven wi_X5_layEven ws_X5_layEven wm_X5_70 ⟨rfl, rfl, Nat.le_of_ble_eq_true rfl, Nat.le_of_ble_eq_true rfl, Nat.le_of_ble_eq_true rfl, Nat.le_of_ble_eq_true rfl⟩ (by decide) zx_E9 rfl rfl hl.1 rfl (Nat.le_of_ble_eq_true rfl) dX5_lay_55) hS (fun H locs hW hS => ?_)
    refine lv_goto (tgt := 95) hx hb dX5_lay_58 (by decide) ?_
    refine lv_aload_n hx hb dX5_lay_95 rfl (lv_at hl 0 rfl) ?_
    obtain ⟨r23, S24, h25, h⟩ := g_bd h
    refine zx_cv (zx_runV (q := (RX5, TX5, 10)) (As := []) (rest := []) F hW (c_X5_giveRanks l D a cs fu   S21 r23 S24 h25) Y_X5_giveRanks wi_X5_giveRanks ws_X5_giveRanks wm_X5_77 ⟨rfl, rfl, Nat.le_of_ble_eq_true rfl, Nat.le_of_ble_eq_true rfl, Nat.le_of_ble_eq_true rfl, Nat.le_of_ble_eq_true rfl⟩ (by decide) zx_E9 rfl rfl hl.1 rfl (Nat.le_of_ble_eq_true rfl) dX5_lay_96) hS (fun H locs hW hS => ?_)
    exact zx_rv F hr hW hS h dX5_lay_99
set_option maxHeartbeats 4000000 in
set_option maxRecDepth 100000 in
theorem c_X5_lay (l : Launch) (D : va_G) (a : Nat → Nat) (cs : zx_C) (fu : Nat) (k0 : Nat) (p1 : Int32) (hk0 : zx_tab k0 = true) (S : St) (r9 : Int32) (S9 : St) (h : f_X5_lay fu k0 p1 S = some (r9, S9)) : Met l yX5_lay (Cond.code yX5_lay cX5_lay 3 none :: zx_tb) ({ frames := 3, cells := 0, slots := 0, locals := 71 }) (zx_P D a cs [.ref (a 9), .ref (a k0), .int p1] S) (zx_Qv D a cs S9) 0 0 (zx_A a) := by
  refine zx_met (own := RX5) (by decide) (Nat.le_of_ble_eq_true rfl) rfl ?_
  intro p e s m below meth c ls F hr hW hS hl
  have hl : lv_has ls 3 [(0, .ref (a 9)), (1, .ref (a k0)), (2, .int p1)] := hl
  obtain ⟨⟨hx, hb, hml, hown, hts⟩, hlk, hK, hJ, hN⟩ := id F
  unfold f_X5_lay at h
  refine lv_aload_n hx hb dX5_lay_0 rfl (lv_at hl 1 rfl) ?_
  refine lv_aload_n hx hb dX5_lay_1 rfl (lv_at hl 0 rfl) ?_
  refine zx_get (C := RX5) (T := TX5) (N := 10) F hW wu_X5 (by decide) zx_E9 rfl 9 (by decide) wf_X5_40 rfl dX5_lay_2 ?_
  obtain ⟨c1, h⟩ := g_ok h
  refine zx_acmp (tgt := 17) F (zx_tab_l hk0).1 (zx_tab_0 hk0) c1 dX5_lay_5 (by decide) (fun c2 => ?_) (fun c2 => ?_)
  · have h := g_f c2 h
    exact k_X5_lay_L17 hk0 F hr   p1 S h _ _ _ hW hS (lv_sub hl [0, 1, 2] rfl)
  · have h := g_t c2 h
    refine lv_iload_n hx hb dX5_lay_8 rfl (lv_at hl 2 rfl) ?_
    refine lv_aload_n hx hb dX5_lay_9 rfl (lv_at hl 0 rfl) ?_
    refine zx_get (C := RX5) (T := TX5) (N := 10) F hW wu_X5 (by decide) zx_E9 rfl 8 (by decide) wf_X5_37 rfl dX5_lay_10 ?_
    refine lv_icmp_ne (tgt := 17) hx hb dX5_lay_13 (by decide) (fun c26 => ?_) (fun c26 => ?_)
    · have h := g_f c26 h
      exact k_X5_lay_L17 hk0 F hr   p1 S h _ _ _ hW hS (lv_sub hl [0, 1, 2] rfl)
    · have h := g_t c26 h
      exact zx_rv F hr hW hS h dX5_lay_16
theorem Y_X0_prepare : zx_Y yX0_prepare cX0_prepare 4 none 3 := ⟨wc_X0_prepare, wn_X0, by decide, by decide, by decide +kernel⟩
set_option maxHeartbeats 4000000 in
set_option maxRecDepth 100000 in
theorem k_X0_prepare_L41 {l : Launch} {D : va_G} {a : Nat → Nat} {cs : zx_C} {p : Program} {e : Env} {s : State} {m : MethodId} {below : List Frame} {meth : Method} {c : Code} {fu : Nat} {k0 : Nat} {p1 : Int32} {p2 : Int32} (hk0 : zx_tab k0 = true) (F : zx_F D a cs p m c cX0_prepare 4 s ([.ref (a 8), .ref (a k0), .int p1, .int p2] : List Value).toArray RX0 meth) (hr : meth.sig.returnType = none) {r9 : Int32} {S9 : St}    (t0 : Int32) (S : St) (h : f_X0_prepare_L41 fu k0 p1 p2   t0 S = some (r9, S9)) (H : Heap) (locs : List Loc) (ls : Array Slot) (hW : zx_W D a cs S H) (hS : va_S (zx_A a) s.heap H locs) (hl : lv_has ls 4 [(0, .ref (a 8))]) : W p l e ({ frames := 4, cells := 0, slots := 0, locals := 93 }) s m ([.ref (a 8), .ref (a k0), .int p1, .int p2] : List Value).toArray below meth c H locs 0 0 (MQ below (zx_Qv D a cs S9) ([.ref (a 8), .ref (a k0), .int p1, .int p2] : List Value).toArray s 0 0 (zx_A a)) (F0 m 41 ls [.int t0, .ref (a 8)]) := by
  obtain ⟨⟨hx, hb, hml, hown, hts⟩, hlk, hK, hJ, hN⟩ := id F
  unfold f_X0_prepare_L41 at h
  obtain ⟨S10, eS10, h⟩ := g_pin h
  refine zx_putv (C := RX0) (T := TX0) (N := 8) F hW hS wu_X0 tyX0_ok nmX0 (by decide) zx_E8 rfl 3 (by decide) wf_X0_25 rfl t0 rfl rfl (Nat.le_of_ble_eq_true rfl) rfl dX0_prepare_41 (fun H locs hW hS => ?_)
  have hW : zx_W D a cs S10 H := by rw [eS10]; exact hW
  refine lv_aload_n hx hb dX0_prepare_44 rfl (lv_at hl 0 rfl) ?_
  refine lv_aload_n hx hb dX0_prepare_45 rfl (lv_at hl 0 rfl) ?_
  obtain ⟨r11, S12, h13, h⟩ := g_bd h
  refine zx_ci (zx_runV (q := (RX0, TX0, 8)) (As := []) (rest := [.ref (a 8)]) F hW (c_X0_isByTable l D a cs   S10 r11 S12 h13) Y_X0_isByTable wi_X0_isByTable ws_X0_isByTable wm_X0_47 ⟨rfl, rfl, Nat.le_of_ble_eq_true rfl, Nat.le_of_ble_eq_true rfl, Nat.le_of_ble_eq_true rfl, Nat.le_of_ble_eq_true rfl⟩ (by decide) zx_E8 rfl rfl hl.1 rfl (Nat.le_of_ble_eq_true rfl) dX0_prepare_46) hS (fun H locs hW hS => ?_)
  refine lv_if_eq (tgt := 56) hx hb dX0_prepare_49 (by decide) (fun c14 => ?_) (fun c14 => ?_)
  · have h := g_t c14 h
    refine lv_bipush (v := 8) hx hb dX0_prepare_56 (by decide) ?_
    obtain ⟨S15, eS15, h⟩ := g_pin h
    refine zx_putv (C := RX0) (T := TX0) (N := 8) F hW hS wu_X0 tyX0_ok nmX0 (by decide) zx_E8 rfl 4 (by decide) wf_X0_28 rfl (8 : Int32) rfl rfl (Nat.le_of_ble_eq_true rfl) rfl dX0_prepare_58 (fun H locs hW hS => ?_)
    have hW : zx_W D a cs S15 H := by rw [eS15]; exact hW
    exact zx_rv F hr hW hS h dX0_prepare_61
  · have h := g_f c14 h
    refine lv_iconst (v := 1) hx hb dX0_prepare_52 (by decide) ?_
    refine lv_goto (tgt := 58) hx hb dX0_prepare_53 (by decide) ?_
    obtain ⟨S16, eS16, h⟩ := g_pin h
    refine zx_putv (C := RX0) (T := TX0) (N := 8) F hW hS wu_X0 tyX0_ok nmX0 (by decide) zx_E8 rfl 4 (by decide) wf_X0_28 rfl (1 : Int32) rfl rfl (Nat.le_of_ble_eq_true rfl) rfl dX0_prepare_58 (fun H locs hW hS => ?_)
    have hW : zx_W D a cs S16 H := by rw [eS16]; exact hW
    exact zx_rv F hr hW hS h dX0_prepare_61
set_option maxHeartbeats 4000000 in
set_option maxRecDepth 100000 in
theorem c_X0_prepare (l : Launch) (D : va_G) (a : Nat → Nat) (cs : zx_C) (fu : Nat) (k0 : Nat) (p1 : Int32) (p2 : Int32) (hk0 : zx_tab k0 = true) (S : St) (r9 : Int32) (S9 : St) (h : f_X0_prepare fu k0 p1 p2 S = some (r9, S9)) : Met l yX0_prepare (Cond.code yX0_prepare cX0_prepare 4 none :: zx_tb) ({ frames := 4, cells := 0, slots := 0, locals := 93 }) (zx_P D a cs [.ref (a 8), .ref (a k0), .int p1, .int p2] S) (zx_Qv D a cs S9) 0 0 (zx_A a) := by
  refine zx_met (own := RX0) (by decide) (Nat.le_of_ble_eq_true rfl) rfl ?_
  intro p e s m below meth c ls F hr hW hS hl
  have hl : lv_has ls 4 [(0, .ref (a 8)), (1, .ref (a k0)), (2, .int p1), (3, .int p2)] := hl
  obtain ⟨⟨hx, hb, hml, hown, hts⟩, hlk, hK, hJ, hN⟩ := id F
  unfold f_X0_prepare at h
  refine lv_aload_n hx hb dX0_prepare_0 rfl (lv_at hl 0 rfl) ?_
  refine zx_get (C := RX0) (T := TX0) (N := 8) F hW wu_X0 (by decide) zx_E8 rfl 0 (by decide) wf_X0_12 rfl dX0_prepare_1 ?_
  refine lv_aload_n hx hb dX0_prepare_4 rfl (lv_at hl 1 rfl) ?_
  refine lv_iload_n hx hb dX0_prepare_5 rfl (lv_at hl 3 rfl) ?_
  obtain ⟨r1, S2, h3, h⟩ := g_bd h
  refine zx_cv (zx_runV (q := (RX5, TX5, 10)) (As := [.ref (a k0), .int p2]) (rest := []) F hW (c_X5_lay l D a cs fu k0 p2 hk0 S r1 S2 h3) Y_X5_lay wi_X5_lay ws_X5_lay wm_X0_40 ⟨rfl, rfl, Nat.le_of_ble_eq_true rfl, Nat.le_of_ble_eq_true rfl, Nat.le_of_ble_eq_true rfl, Nat.le_of_ble_eq_true rfl⟩ (by decide) zx_E9 rfl rfl hl.1 rfl (Nat.le_of_ble_eq_true rfl) dX0_prepare_6) hS (fun H locs hW hS => ?_)
  refine lv_aload_n hx hb dX0_prepare_9 rfl (lv_at hl 0 rfl) ?_
  refine lv_iload_n hx hb dX0_prepare_10 rfl (lv_at hl 2 rfl) ?_
  obtain ⟨S4, eS4, h⟩ := g_pin h
  refine zx_putv (C := RX0) (T := TX0) (N := 8) F hW hS wu_X0 tyX0_ok nmX0 (by decide) zx_E8 rfl 1 (by decide) wf_X0_18 rfl p1 rfl rfl (Nat.le_of_ble_eq_true rfl) rfl dX0_prepare_11 (fun H locs hW hS => ?_)
  have hW : zx_W D a cs S4 H := by rw [eS4]; exact hW
  refine lv_aload_n hx hb dX0_prepare_14 rfl (lv_at hl 0 rfl) ?_
  refine lv_aload_n hx hb dX0_prepare_15 rfl (lv_at hl 1 rfl) ?_
  refine zx_get (C := RX6) (T := TX6) (N := 2) F hW wu_X6 (zx_tab_l hk0).1 (zx_tab_E hk0) rfl 1 (by decide) wf_X0_44 rfl dX0_prepare_16 ?_
  obtain ⟨S5, eS5, h⟩ := g_pin h
  refine zx_putv (C := RX0) (T := TX0) (N := 8) F hW hS wu_X0 tyX0_ok nmX0 (by decide) zx_E8 rfl 2 (by decide) wf_X0_22 rfl (S4 k0 1) rfl rfl (Nat.le_of_ble_eq_true rfl) rfl dX0_prepare_19 (fun H locs hW hS => ?_)
  have hW : zx_W D a cs S5 H := by rw [eS5]; exact hW
  refine lv_aload_n hx hb dX0_prepare_22 rfl (lv_at hl 0 rfl) ?_
  refine lv_aload_n hx hb dX0_prepare_23 rfl (lv_at hl 0 rfl) ?_
  obtain ⟨r6, S7, h8, h⟩ := g_bd h
  refine zx_ci (zx_runV (q := (RX0, TX0, 8)) (As := []) (rest := [.ref (a 8)]) F hW (c_X0_isByTable l D a cs   S5 r6 S7 h8) Y_X0_isByTable wi_X0_isByTable ws_X0_isByTable wm_X0_47 ⟨rfl, rfl, Nat.le_of_ble_eq_true rfl, Nat.le_of_ble_eq_true rfl, Nat.le_of_ble_eq_true rfl, Nat.le_of_ble_eq_true rfl⟩ (by decide) zx_E8 rfl rfl hl.1 rfl (Nat.le_of_ble_eq_true rfl) dX0_prepare_24) hS (fun H locs hW hS => ?_)
  refine lv_if_eq (tgt := 39) hx hb dX0_prepare_27 (by decide) (fun c9 => ?_) (fun c9 => ?_)
  · have h := g_t c9 h
    refine lv_ldc (v := 8388608) hx hb hown (hts _ wk_X0_51) dX0_prepare_39 ?_
    exact k_X0_prepare_L41 hk0 F hr   (8388608 : Int32) S7 h _ _ _ hW hS (lv_sub hl [0] rfl)
  · have h := g_f c9 h
    refine lv_iconst (v := 1) hx hb dX0_prepare_30 (by decide) ?_
    refine lv_aload_n hx hb dX0_prepare_31 rfl (lv_at hl 0 rfl) ?_
    refine zx_get (C := RX0) (T := TX0) (N := 8) F hW wu_X0 (by decide) zx_E8 rfl 2 (by decide) wf_X0_22 rfl dX0_prepare_32 ?_
    refine lv_ishl hx hb dX0_prepare_35 ?_
    refine lv_goto (tgt := 41) hx hb dX0_prepare_36 (by decide) ?_
    exact k_X0_prepare_L41 hk0 F hr   ((1 : Int32) <<< ((S7 8 2) &&& 31)) S7 h _ _ _ hW hS (lv_sub hl [0] rfl)
theorem Y_X0_stateBase : zx_Y yX0_stateBase cX0_stateBase 1 (some (.int)) 0 := ⟨wc_X0_stateBase, wn_X0, by decide, by decide, by decide +kernel⟩
set_option maxHeartbeats 4000000 in
set_option maxRecDepth 100000 in
theorem c_X0_stateBase (l : Launch) (D : va_G) (a : Nat → Nat) (cs : zx_C)   (S : St) (r9 : Int32) (S9 : St) (h : f_X0_stateBase  S = some (r9, S9)) : Met l yX0_stateBase (Cond.code yX0_stateBase cX0_stateBase 1 (some (.int)) :: zx_tb) ({ frames := 1, cells := 0, slots := 0, locals := 20 }) (zx_P D a cs [.ref (a 8)] S) (zx_Qi D a cs r9 S9) 0 0 (zx_A a) := by
  refine zx_met (own := RX0) (by decide) (Nat.le_of_ble_eq_true rfl) rfl ?_
  intro p e s m below meth c ls F hr hW hS hl
  have hl : lv_has ls 1 [(0, .ref (a 8))] := hl
  obtain ⟨⟨hx, hb, hml, hown, hts⟩, hlk, hK, hJ, hN⟩ := id F
  unfold f_X0_stateBase at h
  refine lv_aload_n hx hb dX0_stateBase_0 rfl (lv_at hl 0 rfl) ?_
  obtain ⟨r1, S2, h3, h⟩ := g_bd h
  refine zx_ci (zx_runV (q := (RX0, TX0, 8)) (As := []) (rest := []) F hW (c_X0_isByTable l D a cs   S r1 S2 h3) Y_X0_isByTable wi_X0_isByTable ws_X0_isByTable wm_X0_47 ⟨rfl, rfl, Nat.le_of_ble_eq_true rfl, Nat.le_of_ble_eq_true rfl, Nat.le_of_ble_eq_true rfl, Nat.le_of_ble_eq_true rfl⟩ (by decide) zx_E8 rfl rfl hl.1 rfl (Nat.le_of_ble_eq_true rfl) dX0_stateBase_1) hS (fun H locs hW hS => ?_)
  refine lv_if_eq (tgt := 14) hx hb dX0_stateBase_4 (by decide) (fun c4 => ?_) (fun c4 => ?_)
  · have h := g_t c4 h
    refine lv_iconst (v := 0) hx hb dX0_stateBase_14 (by decide) ?_
    exact zx_ri F hr hW hS h dX0_stateBase_15
  · have h := g_f c4 h
    refine lv_aload_n hx hb dX0_stateBase_7 rfl (lv_at hl 0 rfl) ?_
    refine zx_get (C := RX0) (T := TX0) (N := 8) F hW wu_X0 (by decide) zx_E8 rfl 3 (by decide) wf_X0_25 rfl dX0_stateBase_8 ?_
    refine lv_goto (tgt := 15) hx hb dX0_stateBase_11 (by decide) ?_
    exact zx_ri F hr hW hS h dX0_stateBase_15
theorem Y_X0_stateBytes : zx_Y yX0_stateBytes cX0_stateBytes 1 (some (.int)) 0 := ⟨wc_X0_stateBytes, wn_X0, by decide, by decide, by decide +kernel⟩
set_option maxHeartbeats 4000000 in
set_option maxRecDepth 100000 in
theorem c_X0_stateBytes (l : Launch) (D : va_G) (a : Nat → Nat) (cs : zx_C)   (S : St) (r9 : Int32) (S9 : St) (h : f_X0_stateBytes  S = some (r9, S9)) : Met l yX0_stateBytes (Cond.code yX0_stateBytes cX0_stateBytes 1 (some (.int)) :: zx_tb) ({ frames := 1, cells := 0, slots := 0, locals := 20 }) (zx_P D a cs [.ref (a 8)] S) (zx_Qi D a cs r9 S9) 0 0 (zx_A a) := by
  refine zx_met (own := RX0) (by decide) (Nat.le_of_ble_eq_true rfl) rfl ?_
  intro p e s m below meth c ls F hr hW hS hl
  have hl : lv_has ls 1 [(0, .ref (a 8))] := hl
  obtain ⟨⟨hx, hb, hml, hown, hts⟩, hlk, hK, hJ, hN⟩ := id F
  unfold f_X0_stateBytes at h
  refine lv_aload_n hx hb dX0_stateBytes_0 rfl (lv_at hl 0 rfl) ?_
  obtain ⟨r1, S2, h3, h⟩ := g_bd h
  refine zx_ci (zx_runV (q := (RX0, TX0, 8)) (As := []) (rest := []) F hW (c_X0_isByTable l D a cs   S r1 S2 h3) Y_X0_isByTable wi_X0_isByTable ws_X0_isByTable wm_X0_47 ⟨rfl, rfl, Nat.le_of_ble_eq_true rfl, Nat.le_of_ble_eq_true rfl, Nat.le_of_ble_eq_true rfl, Nat.le_of_ble_eq_true rfl⟩ (by decide) zx_E8 rfl rfl hl.1 rfl (Nat.le_of_ble_eq_true rfl) dX0_stateBytes_1) hS (fun H locs hW hS => ?_)
  refine lv_if_eq (tgt := 11) hx hb dX0_stateBytes_4 (by decide) (fun c4 => ?_) (fun c4 => ?_)
  · have h := g_t c4 h
    refine lv_iconst (v := 4) hx hb dX0_stateBytes_11 (by decide) ?_
    exact zx_ri F hr hW hS h dX0_stateBytes_12
  · have h := g_f c4 h
    refine lv_iconst (v := 2) hx hb dX0_stateBytes_7 (by decide) ?_
    refine lv_goto (tgt := 12) hx hb dX0_stateBytes_8 (by decide) ?_
    exact zx_ri F hr hW hS h dX0_stateBytes_12
theorem Y_X0_stateCount : zx_Y yX0_stateCount cX0_stateCount 1 (some (.int)) 0 := ⟨wc_X0_stateCount, wn_X0, by decide, by decide, by decide +kernel⟩
set_option maxHeartbeats 4000000 in
set_option maxRecDepth 100000 in
theorem c_X0_stateCount (l : Launch) (D : va_G) (a : Nat → Nat) (cs : zx_C)   (S : St) (r9 : Int32) (S9 : St) (h : f_X0_stateCount  S = some (r9, S9)) : Met l yX0_stateCount (Cond.code yX0_stateCount cX0_stateCount 1 (some (.int)) :: zx_tb) ({ frames := 0, cells := 0, slots := 0, locals := 0 }) (zx_P D a cs [.ref (a 8)] S) (zx_Qi D a cs r9 S9) 0 0 (zx_A a) := by
  refine zx_met (own := RX0) (by decide) (Nat.le_of_ble_eq_true rfl) rfl ?_
  intro p e s m below meth c ls F hr hW hS hl
  have hl : lv_has ls 1 [(0, .ref (a 8))] := hl
  obtain ⟨⟨hx, hb, hml, hown, hts⟩, hlk, hK, hJ, hN⟩ := id F
  unfold f_X0_stateCount at h
  refine lv_aload_n hx hb dX0_stateCount_0 rfl (lv_at hl 0 rfl) ?_
  refine zx_get (C := RX0) (T := TX0) (N := 8) F hW wu_X0 (by decide) zx_E8 rfl 1 (by decide) wf_X0_18 rfl dX0_stateCount_1 ?_
  refine lv_iconst (v := 2) hx hb dX0_stateCount_4 (by decide) ?_
  refine lv_icmp_ne (tgt := 12) hx hb dX0_stateCount_5 (by decide) (fun c1 => ?_) (fun c1 => ?_)
  · have h := g_f c1 h
    refine lv_iconst (v := 1) hx hb dX0_stateCount_12 (by decide) ?_
    exact zx_ri F hr hW hS h dX0_stateCount_13
  · have h := g_t c1 h
    refine lv_iconst (v := 2) hx hb dX0_stateCount_8 (by decide) ?_
    refine lv_goto (tgt := 13) hx hb dX0_stateCount_9 (by decide) ?_
    exact zx_ri F hr hW hS h dX0_stateCount_13
theorem Y_X0_turnOf : zx_Y yX0_turnOf cX0_turnOf 2 (some (.int)) 1 := ⟨wc_X0_turnOf, wn_X0, by decide, by decide, by decide +kernel⟩
set_option maxHeartbeats 4000000 in
set_option maxRecDepth 100000 in
theorem c_X0_turnOf (l : Launch) (D : va_G) (a : Nat → Nat) (cs : zx_C) (p0 : Int32)  (S : St) (r9 : Int32) (S9 : St) (h : f_X0_turnOf p0 S = some (r9, S9)) : Met l yX0_turnOf (Cond.code yX0_turnOf cX0_turnOf 2 (some (.int)) :: zx_tb) ({ frames := 0, cells := 0, slots := 0, locals := 0 }) (zx_P D a cs [.ref (a 8), .int p0] S) (zx_Qi D a cs r9 S9) 0 0 (zx_A a) := by
  refine zx_met (own := RX0) (by decide) (Nat.le_of_ble_eq_true rfl) rfl ?_
  intro p e s m below meth c ls F hr hW hS hl
  have hl : lv_has ls 2 [(0, .ref (a 8)), (1, .int p0)] := hl
  obtain ⟨⟨hx, hb, hml, hown, hts⟩, hlk, hK, hJ, hN⟩ := id F
  unfold f_X0_turnOf at h
  refine lv_aload_n hx hb dX0_turnOf_0 rfl (lv_at hl 0 rfl) ?_
  refine zx_get (C := RX0) (T := TX0) (N := 8) F hW wu_X0 (by decide) zx_E8 rfl 1 (by decide) wf_X0_18 rfl dX0_turnOf_1 ?_
  refine lv_iconst (v := 2) hx hb dX0_turnOf_4 (by decide) ?_
  refine lv_icmp_ne (tgt := 14) hx hb dX0_turnOf_5 (by decide) (fun c1 => ?_) (fun c1 => ?_)
  · have h := g_f c1 h
    refine lv_iconst (v := 0) hx hb dX0_turnOf_14 (by decide) ?_
    exact zx_ri F hr hW hS h dX0_turnOf_15
  · have h := g_t c1 h
    refine lv_iload_n hx hb dX0_turnOf_8 rfl (lv_at hl 1 rfl) ?_
    refine lv_iconst (v := 1) hx hb dX0_turnOf_9 (by decide) ?_
    refine lv_iand hx hb dX0_turnOf_10 ?_
    refine lv_goto (tgt := 15) hx hb dX0_turnOf_11 (by decide) ?_
    exact zx_ri F hr hW hS h dX0_turnOf_15
theorem Y_X4_byteAt : zx_Y yX4_byteAt cX4_byteAt 2 (some (.int)) 1 := ⟨wc_X4_byteAt, wn_X4, by decide, by decide, by decide +kernel⟩
set_option maxHeartbeats 4000000 in
set_option maxRecDepth 100000 in
theorem c_X4_byteAt (l : Launch) (D : va_G) (a : Nat → Nat) (cs : zx_C) (k : Nat) (p0 : Int32) (hk : zx_row k = true) (S : St) (r9 : Int32) (S9 : St) (h : f_X4_byteAt k p0 S = some (r9, S9)) : Met l yX4_byteAt (Cond.code yX4_byteAt cX4_byteAt 2 (some (.int)) :: zx_tb) ({ frames := 0, cells := 0, slots := 0, locals := 0 }) (zx_P D a cs [.ref (a k), .int p0] S) (zx_Qi D a cs r9 S9) 0 0 (zx_A a) := by
  refine zx_met (own := RX4) (by decide) (Nat.le_of_ble_eq_true rfl) rfl ?_
  intro p e s m below meth c ls F hr hW hS hl
  have hl : lv_has ls 2 [(0, .ref (a k)), (1, .int p0)] := hl
  obtain ⟨⟨hx, hb, hml, hown, hts⟩, hlk, hK, hJ, hN⟩ := id F
  unfold f_X4_byteAt at h
  refine lv_iload_n hx hb dX4_byteAt_0 rfl (lv_at hl 1 rfl) ?_
  refine lv_if_lt (tgt := 19) hx hb dX4_byteAt_1 (by decide) (fun c1 => ?_) (fun c1 => ?_)
  · have h := g_t c1 h
    refine lv_iconst (v := -1) hx hb dX4_byteAt_19 (by decide) ?_
    refine lv_goto (tgt := 33) hx hb dX4_byteAt_20 (by decide) ?_
    exact zx_ri F hr hW hS h dX4_byteAt_33
  · have h := g_f c1 h
    refine lv_iload_n hx hb dX4_byteAt_4 rfl (lv_at hl 1 rfl) ?_
    refine lv_aload_n hx hb dX4_byteAt_5 rfl (lv_at hl 0 rfl) ?_
    refine zx_get (C := RX4) (T := TX4) (N := 2) F hW wu_X4 (zx_row_l hk).1 (zx_row_E hk) rfl 1 (by decide) wf_X4_15 rfl dX4_byteAt_6 ?_
    refine lv_icmp_ge (tgt := 19) hx hb dX4_byteAt_9 (by decide) (fun c2 => ?_) (fun c2 => ?_)
    · have h := g_t c2 h
      refine lv_iconst (v := -1) hx hb dX4_byteAt_19 (by decide) ?_
      refine lv_goto (tgt := 33) hx hb dX4_byteAt_20 (by decide) ?_
      exact zx_ri F hr hW hS h dX4_byteAt_33
    · have h := g_f c2 h
      refine lv_iload_n hx hb dX4_byteAt_12 rfl (lv_at hl 1 rfl) ?_
      refine lv_sipush (v := 4000) hx hb dX4_byteAt_13 (by decide) ?_
      refine lv_icmp_lt (tgt := 23) hx hb dX4_byteAt_16 (by decide) (fun c3 => ?_) (fun c3 => ?_)
      · have h := g_t c3 h
        refine lv_aload_n hx hb dX4_byteAt_23 rfl (lv_at hl 0 rfl) ?_
        refine zx_get (C := RX4) (T := TX4) (N := 2) F hW wu_X4 (zx_row_l hk).1 (zx_row_E hk) rfl 0 (by decide) wf_X4_9 rfl dX4_byteAt_24 ?_
        refine lv_iload_n hx hb dX4_byteAt_27 rfl (lv_at hl 1 rfl) ?_
        obtain ⟨c4, h⟩ := g_no h
        refine zx_bald (n := 4000) F hW (zx_row_l hk).2 (zx_row_A hk) c4 dX4_byteAt_28 ?_
        refine lv_sipush (v := 255) hx hb dX4_byteAt_29 (by decide) ?_
        refine lv_iand hx hb dX4_byteAt_32 ?_
        exact zx_ri F hr hW hS h dX4_byteAt_33
      · have h := g_f c3 h
        refine lv_iconst (v := -1) hx hb dX4_byteAt_19 (by decide) ?_
        refine lv_goto (tgt := 33) hx hb dX4_byteAt_20 (by decide) ?_
        exact zx_ri F hr hW hS h dX4_byteAt_33
theorem Y_X1_byteAt : zx_Y yX1_byteAt cX1_byteAt 2 (some (.int)) 1 := ⟨wc_X1_byteAt, wn_X1, by decide, by decide, by decide +kernel⟩
set_option maxHeartbeats 4000000 in
set_option maxRecDepth 100000 in
theorem c_X1_byteAt (l : Launch) (D : va_G) (a : Nat → Nat) (cs : zx_C) (p0 : Int32)  (S : St) (r9 : Int32) (S9 : St) (h : f_X1_byteAt p0 S = some (r9, S9)) : Met l yX1_byteAt (Cond.code yX1_byteAt cX1_byteAt 2 (some (.int)) :: zx_tb) ({ frames := 1, cells := 0, slots := 0, locals := 21 }) (zx_P D a cs [.ref (a 7), .int p0] S) (zx_Qi D a cs r9 S9) 0 0 (zx_A a) := by
  refine zx_met (own := RX1) (by decide) (Nat.le_of_ble_eq_true rfl) rfl ?_
  intro p e s m below meth c ls F hr hW hS hl
  have hl : lv_has ls 2 [(0, .ref (a 7)), (1, .int p0)] := hl
  obtain ⟨⟨hx, hb, hml, hown, hts⟩, hlk, hK, hJ, hN⟩ := id F
  unfold f_X1_byteAt at h
  refine lv_aload_n hx hb dX1_byteAt_0 rfl (lv_at hl 0 rfl) ?_
  refine zx_get (C := RX1) (T := TX1) (N := 16) F hW wu_X1 (by decide) zx_E7 rfl 5 (by decide) wf_X1_40 rfl dX1_byteAt_1 ?_
  by_cases c1 : (S 7 5) = 0
  · have h := g_t c1 h
    rw [c1, zx_rfo_0]
    refine lv_ifnonnullN hx hb dX1_byteAt_4 ?_
    refine lv_iconst (v := -1) hx hb dX1_byteAt_7 (by decide) ?_
    refine lv_goto (tgt := 19) hx hb dX1_byteAt_8 (by decide) ?_
    exact zx_ri F hr hW hS h dX1_byteAt_19
  · have h := g_f c1 h
    obtain ⟨c2, h⟩ := g_ok h
    rw [c2, zx_rfo_1]
    refine lv_ifnonnull (tgt := 11) hx hb dX1_byteAt_4 (by decide) ?_
    refine lv_aload_n hx hb dX1_byteAt_11 rfl (lv_at hl 0 rfl) ?_
    refine zx_get (C := RX1) (T := TX1) (N := 16) F hW wu_X1 (by decide) zx_E7 rfl 5 (by decide) wf_X1_40 rfl dX1_byteAt_12 ?_
    by_cases c3 : (S 7 5) = 0
    · have h := g_t c3 h
      rw [c3, zx_rfo_0]
      refine lv_iload_n hx hb dX1_byteAt_15 rfl (lv_at hl 1 rfl) ?_
      exact absurd h (fun q => by cases q)
    · have h := g_f c3 h
      obtain ⟨c4, h⟩ := g_ok h
      rw [c4, zx_rfo_1]
      refine lv_iload_n hx hb dX1_byteAt_15 rfl (lv_at hl 1 rfl) ?_
      obtain ⟨r5, S6, h7, h⟩ := g_bd h
      refine zx_ci (zx_runV (q := (RX4, TX4, 2)) (As := [.int p0]) (rest := []) F hW (c_X4_byteAt l D a cs 1 p0 (by decide) S r5 S6 h7) Y_X4_byteAt wi_X4_byteAt ws_X4_byteAt wm_X1_116 ⟨rfl, rfl, Nat.le_of_ble_eq_true rfl, Nat.le_of_ble_eq_true rfl, Nat.le_of_ble_eq_true rfl, Nat.le_of_ble_eq_true rfl⟩ (by decide) zx_E1 rfl rfl hl.1 rfl (Nat.le_of_ble_eq_true rfl) dX1_byteAt_16) hS (fun H locs hW hS => ?_)
      exact zx_ri F hr hW hS h dX1_byteAt_19
theorem Y_X1_byteCount : zx_Y yX1_byteCount cX1_byteCount 1 (some (.int)) 0 := ⟨wc_X1_byteCount, wn_X1, by decide, by decide, by decide +kernel⟩
set_option maxHeartbeats 4000000 in
set_option maxRecDepth 100000 in
theorem c_X1_byteCount (l : Launch) (D : va_G) (a : Nat → Nat) (cs : zx_C)   (S : St) (r9 : Int32) (S9 : St) (h : f_X1_byteCount  S = some (r9, S9)) : Met l yX1_byteCount (Cond.code yX1_byteCount cX1_byteCount 1 (some (.int)) :: zx_tb) ({ frames := 0, cells := 0, slots := 0, locals := 0 }) (zx_P D a cs [.ref (a 7)] S) (zx_Qi D a cs r9 S9) 0 0 (zx_A a) := by
  refine zx_met (own := RX1) (by decide) (Nat.le_of_ble_eq_true rfl) rfl ?_
  intro p e s m below meth c ls F hr hW hS hl
  have hl : lv_has ls 1 [(0, .ref (a 7))] := hl
  obtain ⟨⟨hx, hb, hml, hown, hts⟩, hlk, hK, hJ, hN⟩ := id F
  unfold f_X1_byteCount at h
  refine lv_aload_n hx hb dX1_byteCount_0 rfl (lv_at hl 0 rfl) ?_
  refine zx_get (C := RX1) (T := TX1) (N := 16) F hW wu_X1 (by decide) zx_E7 rfl 5 (by decide) wf_X1_40 rfl dX1_byteCount_1 ?_
  by_cases c1 : (S 7 5) = 0
  · have h := g_t c1 h
    rw [c1, zx_rfo_0]
    refine lv_ifnonnullN hx hb dX1_byteCount_4 ?_
    refine lv_iconst (v := 0) hx hb dX1_byteCount_7 (by decide) ?_
    refine lv_goto (tgt := 18) hx hb dX1_byteCount_8 (by decide) ?_
    exact zx_ri F hr hW hS h dX1_byteCount_18
  · have h := g_f c1 h
    obtain ⟨c2, h⟩ := g_ok h
    rw [c2, zx_rfo_1]
    refine lv_ifnonnull (tgt := 11) hx hb dX1_byteCount_4 (by decide) ?_
    refine lv_aload_n hx hb dX1_byteCount_11 rfl (lv_at hl 0 rfl) ?_
    refine zx_get (C := RX1) (T := TX1) (N := 16) F hW wu_X1 (by decide) zx_E7 rfl 5 (by decide) wf_X1_40 rfl dX1_byteCount_12 ?_
    by_cases c3 : (S 7 5) = 0
    · have h := g_t c3 h
      rw [c3, zx_rfo_0]
      exact absurd h (fun q => by cases q)
    · have h := g_f c3 h
      obtain ⟨c4, h⟩ := g_ok h
      rw [c4, zx_rfo_1]
      refine zx_get (C := RX4) (T := TX4) (N := 2) F hW wu_X4 (by decide) zx_E1 rfl 1 (by decide) wf_X1_107 rfl dX1_byteCount_15 ?_
      exact zx_ri F hr hW hS h dX1_byteCount_18
theorem Y_X1_isWhole : zx_Y yX1_isWhole cX1_isWhole 1 (some (.boolean)) 0 := ⟨wc_X1_isWhole, wn_X1, by decide, by decide, by decide +kernel⟩
set_option maxHeartbeats 4000000 in
set_option maxRecDepth 100000 in
theorem c_X1_isWhole (l : Launch) (D : va_G) (a : Nat → Nat) (cs : zx_C)   (S : St) (r9 : Int32) (S9 : St) (h : f_X1_isWhole  S = some (r9, S9)) : Met l yX1_isWhole (Cond.code yX1_isWhole cX1_isWhole 1 (some (.boolean)) :: zx_tb) ({ frames := 0, cells := 0, slots := 0, locals := 0 }) (zx_P D a cs [.ref (a 7)] S) (zx_Qi D a cs r9 S9) 0 0 (zx_A a) := by
  refine zx_met (own := RX1) (by decide) (Nat.le_of_ble_eq_true rfl) rfl ?_
  intro p e s m below meth c ls F hr hW hS hl
  have hl : lv_has ls 1 [(0, .ref (a 7))] := hl
  obtain ⟨⟨hx, hb, hml, hown, hts⟩, hlk, hK, hJ, hN⟩ := id F
  unfold f_X1_isWhole at h
  refine lv_aload_n hx hb dX1_isWhole_0 rfl (lv_at hl 0 rfl) ?_
  refine zx_get (C := RX1) (T := TX1) (N := 16) F hW wu_X1 (by decide) zx_E7 rfl 6 (by decide) wf_X1_44 rfl dX1_isWhole_1 ?_
  refine lv_if_ne (tgt := 11) hx hb dX1_isWhole_4 (by decide) (fun c1 => ?_) (fun c1 => ?_)
  · have h := g_f c1 h
    refine lv_iconst (v := 0) hx hb dX1_isWhole_11 (by decide) ?_
    exact zx_rz F hr (by decide) hW hS h dX1_isWhole_12
  · have h := g_t c1 h
    refine lv_iconst (v := 1) hx hb dX1_isWhole_7 (by decide) ?_
    refine lv_goto (tgt := 12) hx hb dX1_isWhole_8 (by decide) ?_
    exact zx_rz F hr (by decide) hW hS h dX1_isWhole_12
theorem Y_X1_demand : zx_Y yX1_demand cX1_demand 4 none 3 := ⟨wc_X1_demand, wn_X1, by decide, by decide, by decide +kernel⟩
set_option maxHeartbeats 4000000 in
set_option maxRecDepth 100000 in
theorem c_X1_demand (l : Launch) (D : va_G) (a : Nat → Nat) (cs : zx_C) (p0 : Int32) (p1 : Int32) (p2 : Int32)  (S : St) (r9 : Int32) (S9 : St) (h : f_X1_demand p0 p1 p2 S = some (r9, S9)) : Met l yX1_demand (Cond.code yX1_demand cX1_demand 4 none :: zx_tb) ({ frames := 1, cells := 0, slots := 0, locals := 20 }) (zx_P D a cs [.ref (a 7), .int p0, .int p1, .int p2] S) (zx_Qv D a cs S9) 0 0 (zx_A a) := by
  refine zx_met (own := RX1) (by decide) (Nat.le_of_ble_eq_true rfl) rfl ?_
  intro p e s m below meth c ls F hr hW hS hl
  have hl : lv_has ls 4 [(0, .ref (a 7)), (1, .int p0), (2, .int p1), (3, .int p2)] := hl
  obtain ⟨⟨hx, hb, hml, hown, hts⟩, hlk, hK, hJ, hN⟩ := id F
  unfold f_X1_demand at h
  refine lv_iload_n hx hb dX1_demand_0 rfl (lv_at hl 1 rfl) ?_
  refine lv_if_ne (tgt := 21) hx hb dX1_demand_1 (by decide) (fun c1 => ?_) (fun c1 => ?_)
  · have h := g_f c1 h
    exact zx_rv F hr hW hS h dX1_demand_21
  · have h := g_t c1 h
    refine lv_aload_n hx hb dX1_demand_4 rfl (lv_at hl 0 rfl) ?_
    obtain ⟨r2, S3, h4, h⟩ := g_bd h
    refine zx_ci (zx_runV (q := (RX1, TX1, 16)) (As := []) (rest := []) F hW (c_X1_isWhole l D a cs   S r2 S3 h4) Y_X1_isWhole wi_X1_isWhole ws_X1_isWhole wm_X1_84 ⟨rfl, rfl, Nat.le_of_ble_eq_true rfl, Nat.le_of_ble_eq_true rfl, Nat.le_of_ble_eq_true rfl, Nat.le_of_ble_eq_true rfl⟩ (by decide) zx_E7 rfl rfl hl.1 rfl (Nat.le_of_ble_eq_true rfl) dX1_demand_5) hS (fun H locs hW hS => ?_)
    refine lv_if_eq (tgt := 21) hx hb dX1_demand_8 (by decide) (fun c5 => ?_) (fun c5 => ?_)
    · have h := g_t c5 h
      exact zx_rv F hr hW hS h dX1_demand_21
    · have h := g_f c5 h
      refine lv_aload_n hx hb dX1_demand_11 rfl (lv_at hl 0 rfl) ?_
      refine lv_iload_n hx hb dX1_demand_12 rfl (lv_at hl 2 rfl) ?_
      obtain ⟨S6, eS6, h⟩ := g_pin h
      refine zx_putv (C := RX1) (T := TX1) (N := 16) F hW hS wu_X1 tyX1_ok nmX1 (by decide) zx_E7 rfl 6 (by decide) wf_X1_44 rfl p1 rfl rfl (Nat.le_of_ble_eq_true rfl) rfl dX1_demand_13 (fun H locs hW hS => ?_)
      have hW : zx_W D a cs S6 H := by rw [eS6]; exact hW
      refine lv_aload_n hx hb dX1_demand_16 rfl (lv_at hl 0 rfl) ?_
      refine lv_iload_n hx hb dX1_demand_17 rfl (lv_at hl 3 rfl) ?_
      obtain ⟨S7, eS7, h⟩ := g_pin h
      refine zx_putv (C := RX1) (T := TX1) (N := 16) F hW hS wu_X1 tyX1_ok nmX1 (by decide) zx_E7 rfl 7 (by decide) wf_X1_48 rfl p2 rfl rfl (Nat.le_of_ble_eq_true rfl) rfl dX1_demand_18 (fun H locs hW hS => ?_)
      have hW : zx_W D a cs S7 H := by rw [eS7]; exact hW
      exact zx_rv F hr hW hS h dX1_demand_21
theorem Y_X1_checkPayloadEnd : zx_Y yX1_checkPayloadEnd cX1_checkPayloadEnd 4 none 0 := ⟨wc_X1_checkPayloadEnd, wn_X1, by decide, by decide, by decide +kernel⟩
set_option maxHeartbeats 4000000 in
set_option maxRecDepth 100000 in
theorem k_X1_checkPayloadEnd_L75 {l : Launch} {D : va_G} {a : Nat → Nat} {cs : zx_C} {p : Program} {e : Env} {s : State} {m : MethodId} {below : List Frame} {meth : Method} {c : Code}   (F : zx_F D a cs p m c cX1_checkPayloadEnd 4 s ([.ref (a 7)] : List Value).toArray RX1 meth) (hr : meth.sig.returnType = none) {r9 : Int32} {S9 : St}    (v1 : Int32) (t0 : Int32) (S : St) (h : f_X1_checkPayloadEnd_L75    v1 t0 S = some (r9, S9)) (H : Heap) (locs : List Loc) (ls : Array Slot) (hW : zx_W D a cs S H) (hS : va_S (zx_A a) s.heap H locs) (hl : lv_has ls 4 [(0, .ref (a 7)), (1, .int v1)]) : W p l e ({ frames := 2, cells := 0, slots := 0, locals := 43 }) s m ([.ref (a 7)] : List Value).toArray below meth c H locs 0 0 (MQ below (zx_Qv D a cs S9) ([.ref (a 7)] : List Value).toArray s 0 0 (zx_A a)) (F0 m 75 ls [.int t0, .ref (a 7)]) := by
  obtain ⟨⟨hx, hb, hml, hown, hts⟩, hlk, hK, hJ, hN⟩ := id F
  unfold f_X1_checkPayloadEnd_L75 at h
  refine lv_bipush (v := 6) hx hb dX1_checkPayloadEnd_75 (by decide) ?_
  refine lv_aload_n hx hb dX1_checkPayloadEnd_77 rfl (lv_at hl 0 rfl) ?_
  refine zx_get (C := RX1) (T := TX1) (N := 16) F hW wu_X1 (by decide) zx_E7 rfl 13 (by decide) wf_X1_66 rfl dX1_checkPayloadEnd_78 ?_
  refine lv_iload_n hx hb dX1_checkPayloadEnd_81 rfl (lv_at hl 1 rfl) ?_
  refine lv_iadd hx hb dX1_checkPayloadEnd_82 ?_
  obtain ⟨r5, S6, h7, h⟩ := g_bd h
  refine zx_cv (zx_runV (q := (RX1, TX1, 16)) (As := [.int t0, .int (6 : Int32), .int ((S 7 13) + v1)]) (rest := []) F hW (c_X1_demand l D a cs t0 (6 : Int32) ((S 7 13) + v1)  S r5 S6 h7) Y_X1_demand wi_X1_demand ws_X1_demand wm_X1_124 ⟨rfl, rfl, Nat.le_of_ble_eq_true rfl, Nat.le_of_ble_eq_true rfl, Nat.le_of_ble_eq_true rfl, Nat.le_of_ble_eq_true rfl⟩ (by decide) zx_E7 rfl rfl hl.1 rfl (Nat.le_of_ble_eq_true rfl) dX1_checkPayloadEnd_83) hS (fun H locs hW hS => ?_)
  exact zx_rv F hr hW hS h dX1_checkPayloadEnd_86
set_option maxHeartbeats 4000000 in
set_option maxRecDepth 100000 in
theorem k_X1_checkPayloadEnd_L61 {l : Launch} {D : va_G} {a : Nat → Nat} {cs : zx_C} {p : Program} {e : Env} {s : State} {m : MethodId} {below : List Frame} {meth : Method} {c : Code}   (F : zx_F D a cs p m c cX1_checkPayloadEnd 4 s ([.ref (a 7)] : List Value).toArray RX1 meth) (hr : meth.sig.returnType = none) {r9 : Int32} {S9 : St}    (v1 : Int32) (S : St) (h : f_X1_checkPayloadEnd_L61    v1 S = some (r9, S9)) (H : Heap) (locs : List Loc) (ls : Array Slot) (hW : zx_W D a cs S H) (hS : va_S (zx_A a) s.heap H locs) (hl : lv_has ls 4 [(0, .ref (a 7)), (1, .int v1)]) : W p l e ({ frames := 2, cells := 0, slots := 0, locals := 43 }) s m ([.ref (a 7)] : List Value).toArray below meth c H locs 0 0 (MQ below (zx_Qv D a cs S9) ([.ref (a 7)] : List Value).toArray s 0 0 (zx_A a)) (F0 m 61 ls []) := by
  obtain ⟨⟨hx, hb, hml, hown, hts⟩, hlk, hK, hJ, hN⟩ := id F
  unfold f_X1_checkPayloadEnd_L61 at h
  refine lv_aload_n hx hb dX1_checkPayloadEnd_61 rfl (lv_at hl 0 rfl) ?_
  refine lv_iload_n hx hb dX1_checkPayloadEnd_62 rfl (lv_at hl 1 rfl) ?_
  refine lv_aload_n hx hb dX1_checkPayloadEnd_63 rfl (lv_at hl 0 rfl) ?_
  refine zx_get (C := RX1) (T := TX1) (N := 16) F hW wu_X1 (by decide) zx_E7 rfl 14 (by decide) wf_X1_69 rfl dX1_checkPayloadEnd_64 ?_
  refine lv_icmp_lt (tgt := 74) hx hb dX1_checkPayloadEnd_67 (by decide) (fun c4 => ?_) (fun c4 => ?_)
  · have h := g_t c4 h
    refine lv_iconst (v := 0) hx hb dX1_checkPayloadEnd_74 (by decide) ?_
    exact k_X1_checkPayloadEnd_L75  F hr   v1 (0 : Int32) S h _ _ _ hW hS (lv_sub hl [0, 1] rfl)
  · have h := g_f c4 h
    refine lv_iconst (v := 1) hx hb dX1_checkPayloadEnd_70 (by decide) ?_
    refine lv_goto (tgt := 75) hx hb dX1_checkPayloadEnd_71 (by decide) ?_
    exact k_X1_checkPayloadEnd_L75  F hr   v1 (1 : Int32) S h _ _ _ hW hS (lv_sub hl [0, 1] rfl)
set_option maxHeartbeats 4000000 in
set_option maxRecDepth 100000 in
theorem k_X1_checkPayloadEnd_L47 {l : Launch} {D : va_G} {a : Nat → Nat} {cs : zx_C} {p : Program} {e : Env} {s : State} {m : MethodId} {below : List Frame} {meth : Method} {c : Code}   (F : zx_F D a cs p m c cX1_checkPayloadEnd 4 s ([.ref (a 7)] : List Value).toArray RX1 meth) (hr : meth.sig.returnType = none) {r9 : Int32} {S9 : St}    (v1 : Int32) (t0 : Int32) (S : St) (h : f_X1_checkPayloadEnd_L47    v1 t0 S = some (r9, S9)) (H : Heap) (locs : List Loc) (ls : Array Slot) (hW : zx_W D a cs S H) (hS : va_S (zx_A a) s.heap H locs) (hl : lv_has ls 4 [(0, .ref (a 7)), (1, .int v1)]) : W p l e ({ frames := 2, cells := 0, slots := 0, locals := 43 }) s m ([.ref (a 7)] : List Value).toArray below meth c H locs 0 0 (MQ below (zx_Qv D a cs S9) ([.ref (a 7)] : List Value).toArray s 0 0 (zx_A a)) (F0 m 47 ls [.int t0, .ref (a 7)]) := by
  obtain ⟨⟨hx, hb, hml, hown, hts⟩, hlk, hK, hJ, hN⟩ := id F
  unfold f_X1_checkPayloadEnd_L47 at h
  refine lv_bipush (v := 6) hx hb dX1_checkPayloadEnd_47 (by decide) ?_
  refine lv_aload_n hx hb dX1_checkPayloadEnd_49 rfl (lv_at hl 0 rfl) ?_
  refine zx_get (C := RX1) (T := TX1) (N := 16) F hW wu_X1 (by decide) zx_E7 rfl 13 (by decide) wf_X1_66 rfl dX1_checkPayloadEnd_50 ?_
  refine lv_iload_n hx hb dX1_checkPayloadEnd_53 rfl (lv_at hl 1 rfl) ?_
  refine lv_iadd hx hb dX1_checkPayloadEnd_54 ?_
  obtain ⟨r13, S14, h15, h⟩ := g_bd h
  refine zx_cv (zx_runV (q := (RX1, TX1, 16)) (As := [.int t0, .int (6 : Int32), .int ((S 7 13) + v1)]) (rest := []) F hW (c_X1_demand l D a cs t0 (6 : Int32) ((S 7 13) + v1)  S r13 S14 h15) Y_X1_demand wi_X1_demand ws_X1_demand wm_X1_124 ⟨rfl, rfl, Nat.le_of_ble_eq_true rfl, Nat.le_of_ble_eq_true rfl, Nat.le_of_ble_eq_true rfl, Nat.le_of_ble_eq_true rfl⟩ (by decide) zx_E7 rfl rfl hl.1 rfl (Nat.le_of_ble_eq_true rfl) dX1_checkPayloadEnd_55) hS (fun H locs hW hS => ?_)
  obtain ⟨x16, ex16, h⟩ := g_pin h
  refine lv_iinc (v := x16) (lv' := [(1, .int x16), (0, .ref (a 7))]) hx hb dX1_checkPayloadEnd_58 hl (k := 1) rfl (by rw [ex16]; rfl) (by decide) rfl (fun ls hl => ?_)
  exact k_X1_checkPayloadEnd_L61  F hr   x16 S14 h _ _ _ hW hS (lv_sub hl [1, 0] rfl)
set_option maxHeartbeats 4000000 in
set_option maxRecDepth 100000 in
theorem c_X1_checkPayloadEnd (l : Launch) (D : va_G) (a : Nat → Nat) (cs : zx_C)   (S : St) (r9 : Int32) (S9 : St) (h : f_X1_checkPayloadEnd  S = some (r9, S9)) : Met l yX1_checkPayloadEnd (Cond.code yX1_checkPayloadEnd cX1_checkPayloadEnd 4 none :: zx_tb) ({ frames := 2, cells := 0, slots := 0, locals := 43 }) (zx_P D a cs [.ref (a 7)] S) (zx_Qv D a cs S9) 0 0 (zx_A a) := by
  refine zx_met (own := RX1) (by decide) (Nat.le_of_ble_eq_true rfl) rfl ?_
  intro p e s m below meth c ls F hr hW hS hl
  have hl : lv_has ls 4 [(0, .ref (a 7))] := hl
  obtain ⟨⟨hx, hb, hml, hown, hts⟩, hlk, hK, hJ, hN⟩ := id F
  unfold f_X1_checkPayloadEnd at h
  refine lv_aload_n hx hb dX1_checkPayloadEnd_0 rfl (lv_at hl 0 rfl) ?_
  refine zx_get (C := RX1) (T := TX1) (N := 16) F hW wu_X1 (by decide) zx_E7 rfl 15 (by decide) wf_X1_72 rfl dX1_checkPayloadEnd_1 ?_
  refine lv_bipush (v := 8) hx hb dX1_checkPayloadEnd_4 (by decide) ?_
  refine lv_idiv hx hb dX1_checkPayloadEnd_6 (by decide) ?_
  obtain ⟨x1, ex1, h⟩ := g_pin h
  refine zx_nm ex1 ?_
  refine lv_istore_n (lv' := [(1, .int x1), (0, .ref (a 7))]) hx hb dX1_checkPayloadEnd_7 rfl hl (by decide) rfl (fun ls hl => ?_)
  refine lv_aload_n hx hb dX1_checkPayloadEnd_8 rfl (lv_at hl 1 rfl) ?_
  refine zx_get (C := RX1) (T := TX1) (N := 16) F hW wu_X1 (by decide) zx_E7 rfl 15 (by decide) wf_X1_72 rfl dX1_checkPayloadEnd_9 ?_
  refine lv_bipush (v := 8) hx hb dX1_checkPayloadEnd_12 (by decide) ?_
  refine lv_irem hx hb dX1_checkPayloadEnd_14 (by decide) ?_
  obtain ⟨x2, ex2, h⟩ := g_pin h
  refine zx_nm ex2 ?_
  refine lv_istore_n (lv' := [(2, .int x2), (1, .int x1), (0, .ref (a 7))]) hx hb dX1_checkPayloadEnd_15 rfl hl (by decide) rfl (fun ls hl => ?_)
  refine lv_iload_n hx hb dX1_checkPayloadEnd_16 rfl (lv_at hl 0 rfl) ?_
  refine lv_if_le (tgt := 61) hx hb dX1_checkPayloadEnd_17 (by decide) (fun c3 => ?_) (fun c3 => ?_)
  · have h := g_t c3 h
    exact k_X1_checkPayloadEnd_L61  F hr   x1 S h _ _ _ hW hS (lv_sub hl [2, 1] rfl)
  · have h := g_f c3 h
    refine lv_aload_n hx hb dX1_checkPayloadEnd_20 rfl (lv_at hl 2 rfl) ?_
    refine lv_aload_n hx hb dX1_checkPayloadEnd_21 rfl (lv_at hl 2 rfl) ?_
    refine zx_get (C := RX1) (T := TX1) (N := 16) F hW wu_X1 (by decide) zx_E7 rfl 13 (by decide) wf_X1_66 rfl dX1_checkPayloadEnd_22 ?_
    refine lv_iload_n hx hb dX1_checkPayloadEnd_25 rfl (lv_at hl 1 rfl) ?_
    refine lv_iadd hx hb dX1_checkPayloadEnd_26 ?_
    obtain ⟨r8, S9, h10, h⟩ := g_bd h
    refine zx_ci (zx_runV (q := (RX1, TX1, 16)) (As := [.int ((S 7 13) + x1)]) (rest := []) F hW (c_X1_byteAt l D a cs ((S 7 13) + x1)  S r8 S9 h10) Y_X1_byteAt wi_X1_byteAt ws_X1_byteAt wm_X1_128 ⟨rfl, rfl, Nat.le_of_ble_eq_true rfl, Nat.le_of_ble_eq_true rfl, Nat.le_of_ble_eq_true rfl, Nat.le_of_ble_eq_true rfl⟩ (by decide) zx_E7 rfl rfl hl.1 rfl (Nat.le_of_ble_eq_true rfl) dX1_checkPayloadEnd_27) hS (fun H locs hW hS => ?_)
    refine lv_iload_n hx hb dX1_checkPayloadEnd_30 rfl (lv_at hl 0 rfl) ?_
    refine lv_ishl hx hb dX1_checkPayloadEnd_31 ?_
    refine lv_sipush (v := 255) hx hb dX1_checkPayloadEnd_32 (by decide) ?_
    refine lv_iand hx hb dX1_checkPayloadEnd_35 ?_
    obtain ⟨x11, ex11, h⟩ := g_pin h
    refine zx_nm ex11 ?_
    refine lv_istore_n (lv' := [(3, .int x11), (2, .int x2), (1, .int x1), (0, .ref (a 7))]) hx hb dX1_checkPayloadEnd_36 rfl hl (by decide) rfl (fun ls hl => ?_)
    refine lv_aload_n hx hb dX1_checkPayloadEnd_37 rfl (lv_at hl 3 rfl) ?_
    refine lv_iload_n hx hb dX1_checkPayloadEnd_38 rfl (lv_at hl 0 rfl) ?_
    refine lv_if_ne (tgt := 46) hx hb dX1_checkPayloadEnd_39 (by decide) (fun c12 => ?_) (fun c12 => ?_)
    · have h := g_f c12 h
      refine lv_iconst (v := 0) hx hb dX1_checkPayloadEnd_46 (by decide) ?_
      exact k_X1_checkPayloadEnd_L47  F hr   x1 (0 : Int32) S9 h _ _ _ hW hS (lv_sub hl [3, 2] rfl)
    · have h := g_t c12 h
      refine lv_iconst (v := 1) hx hb dX1_checkPayloadEnd_42 (by decide) ?_
      refine lv_goto (tgt := 47) hx hb dX1_checkPayloadEnd_43 (by decide) ?_
      exact k_X1_checkPayloadEnd_L47  F hr   x1 (1 : Int32) S9 h _ _ _ hW hS (lv_sub hl [3, 2] rfl)
theorem Y_X1_checkStates : zx_Y yX1_checkStates cX1_checkStates 2 none 0 := ⟨wc_X1_checkStates, wn_X1, by decide, by decide, by decide +kernel⟩
set_option maxHeartbeats 4000000 in
set_option maxRecDepth 100000 in
theorem k_X1_checkStates_L35 {l : Launch} {D : va_G} {a : Nat → Nat} {cs : zx_C} {p : Program} {e : Env} {s : State} {m : MethodId} {below : List Frame} {meth : Method} {c : Code} {fu : Nat}   (F : zx_F D a cs p m c cX1_checkStates 2 s ([.ref (a 7)] : List Value).toArray RX1 meth) (hr : meth.sig.returnType = none) {r9 : Int32} {S9 : St} {K2 : Int32 → St → Option (Int32 × St)} (hK2 : ∀ (v1 : Int32) (S : St), K2 v1 S = some (r9, S9) → ∀ (H : Heap) (locs : List Loc) (ls : Array Slot), zx_W D a cs S H → va_S (zx_A a) s.heap H locs → lv_has ls 2 [(0, .ref (a 7)), (1, .int v1)] → W p l e ({ frames := 2, cells := 0, slots := 0, locals := 43 }) s m ([.ref (a 7)] : List Value).toArray below meth c H locs 0 0 (MQ below (zx_Qv D a cs S9) ([.ref (a 7)] : List Value).toArray s 0 0 (zx_A a)) (F0 m 2 ls []))  (v1 : Int32) (t0 : Int32) (S : St) (h : f_X1_checkStates_L35 fu  K2  v1 t0 S = some (r9, S9)) (H : Heap) (locs : List Loc) (ls : Array Slot) (hW : zx_W D a cs S H) (hS : va_S (zx_A a) s.heap H locs) (hl : lv_has ls 2 [(0, .ref (a 7)), (1, .int v1)]) : W p l e ({ frames := 2, cells := 0, slots := 0, locals := 43 }) s m ([.ref (a 7)] : List Value).toArray below meth c H locs 0 0 (MQ below (zx_Qv D a cs S9) ([.ref (a 7)] : List Value).toArray s 0 0 (zx_A a)) (F0 m 35 ls [.int t0, .ref (a 7)]) := by
  obtain ⟨⟨hx, hb, hml, hown, hts⟩, hlk, hK, hJ, hN⟩ := id F
  unfold f_X1_checkStates_L35 at h
  refine lv_bipush (v := 7) hx hb dX1_checkStates_35 (by decide) ?_
  refine lv_aload_n hx hb dX1_checkStates_37 rfl (lv_at hl 0 rfl) ?_
  refine zx_get (C := RX1) (T := TX1) (N := 16) F hW wu_X1 (by decide) zx_E7 rfl 12 (by decide) wf_X1_63 rfl dX1_checkStates_38 ?_
  refine lv_iload_n hx hb dX1_checkStates_41 rfl (lv_at hl 1 rfl) ?_
  refine lv_aload_n hx hb dX1_checkStates_42 rfl (lv_at hl 0 rfl) ?_
  refine zx_get (C := RX1) (T := TX1) (N := 16) F hW wu_X1 (by decide) zx_E7 rfl 0 (by decide) wf_X1_12 rfl dX1_checkStates_43 ?_
  obtain ⟨r7, S8, h9, h⟩ := g_bd h
  refine zx_ci (zx_runV (q := (RX0, TX0, 8)) (As := []) (rest := [.int v1, .int (S 7 12), .int (7 : Int32), .int t0, .ref (a 7)]) F hW (c_X0_stateBytes l D a cs   S r7 S8 h9) Y_X0_stateBytes wi_X0_stateBytes ws_X0_stateBytes wm_X1_165 ⟨rfl, rfl, Nat.le_of_ble_eq_true rfl, Nat.le_of_ble_eq_true rfl, Nat.le_of_ble_eq_true rfl, Nat.le_of_ble_eq_true rfl⟩ (by decide) zx_E8 rfl rfl hl.1 rfl (Nat.le_of_ble_eq_true rfl) dX1_checkStates_46) hS (fun H locs hW hS => ?_)
  refine lv_imul hx hb dX1_checkStates_49 ?_
  refine lv_iadd hx hb dX1_checkStates_50 ?_
  obtain ⟨r10, S11, h12, h⟩ := g_bd h
  refine zx_cv (zx_runV (q := (RX1, TX1, 16)) (As := [.int t0, .int (7 : Int32), .int ((S 7 12) + (v1 * r7))]) (rest := []) F hW (c_X1_demand l D a cs t0 (7 : Int32) ((S 7 12) + (v1 * r7))  S8 r10 S11 h12) Y_X1_demand wi_X1_demand ws_X1_demand wm_X1_124 ⟨rfl, rfl, Nat.le_of_ble_eq_true rfl, Nat.le_of_ble_eq_true rfl, Nat.le_of_ble_eq_true rfl, Nat.le_of_ble_eq_true rfl⟩ (by decide) zx_E7 rfl rfl hl.1 rfl (Nat.le_of_ble_eq_true rfl) dX1_checkStates_51) hS (fun H locs hW hS => ?_)
  obtain ⟨x13, ex13, h⟩ := g_pin h
  refine lv_iinc (v := x13) (lv' := [(1, .int x13), (0, .ref (a 7))]) hx hb dX1_checkStates_54 hl (k := 1) rfl (by rw [ex13]; rfl) (by decide) rfl (fun ls hl => ?_)
  refine lv_goto (tgt := 2) hx hb dX1_checkStates_57 (by decide) ?_
  exact hK2 x13 S11 h _ _ _ hW hS (lv_sub hl [1, 0] rfl)
set_option maxHeartbeats 4000000 in
set_option maxRecDepth 100000 in
theorem k_X1_checkStates_L2 {l : Launch} {D : va_G} {a : Nat → Nat} {cs : zx_C} {p : Program} {e : Env} {s : State} {m : MethodId} {below : List Frame} {meth : Method} {c : Code} {fu : Nat}   (F : zx_F D a cs p m c cX1_checkStates 2 s ([.ref (a 7)] : List Value).toArray RX1 meth) (hr : meth.sig.returnType = none) {r9 : Int32} {S9 : St}    : ∀ (n : Nat) (v1 : Int32) (S : St), f_X1_checkStates_L2 fu    n v1 S = some (r9, S9) → ∀ (H : Heap) (locs : List Loc) (ls : Array Slot), zx_W D a cs S H → va_S (zx_A a) s.heap H locs → lv_has ls 2 [(0, .ref (a 7)), (1, .int v1)] → W p l e ({ frames := 2, cells := 0, slots := 0, locals := 43 }) s m ([.ref (a 7)] : List Value).toArray below meth c H locs 0 0 (MQ below (zx_Qv D a cs S9) ([.ref (a 7)] : List Value).toArray s 0 0 (zx_A a)) (F0 m 2 ls []) := by
  obtain ⟨⟨hx, hb, hml, hown, hts⟩, hlk, hK, hJ, hN⟩ := id F
  intro n
  induction n with
  | zero =>
    intro v1 S h
    exact absurd h (fun q => by cases q)
  | succ n ih =>
    intro v1 S h H locs ls hW hS hl
    rw [f_X1_checkStates_L2_s] at h
    refine lv_iload_n hx hb dX1_checkStates_2 rfl (lv_at hl 1 rfl) ?_
    refine lv_aload_n hx hb dX1_checkStates_3 rfl (lv_at hl 0 rfl) ?_
    refine zx_get (C := RX1) (T := TX1) (N := 16) F hW wu_X1 (by decide) zx_E7 rfl 0 (by decide) wf_X1_12 rfl dX1_checkStates_4 ?_
    obtain ⟨r1, S2, h3, h⟩ := g_bd h
    refine zx_ci (zx_runV (q := (RX0, TX0, 8)) (As := []) (rest := [.int v1]) F hW (c_X0_stateCount l D a cs   S r1 S2 h3) Y_X0_stateCount wi_X0_stateCount ws_X0_stateCount wm_X1_159 ⟨rfl, rfl, Nat.le_of_ble_eq_true rfl, Nat.le_of_ble_eq_true rfl, Nat.le_of_ble_eq_true rfl, Nat.le_of_ble_eq_true rfl⟩ (by decide) zx_E8 rfl rfl hl.1 rfl (Nat.le_of_ble_eq_true rfl) dX1_checkStates_7) hS (fun H locs hW hS => ?_)
    refine lv_icmp_ge (tgt := 60) hx hb dX1_checkStates_10 (by decide) (fun c4 => ?_) (fun c4 => ?_)
    · have h := g_t c4 h
      exact zx_rv F hr hW hS h dX1_checkStates_60
    · have h := g_f c4 h
      refine lv_aload_n hx hb dX1_checkStates_13 rfl (lv_at hl 0 rfl) ?_
      refine lv_aload_n hx hb dX1_checkStates_14 rfl (lv_at hl 0 rfl) ?_
      refine zx_get (C := RX1) (T := TX1) (N := 16) F hW wu_X1 (by decide) zx_E7 rfl 2 (by decide) wf_X1_25 rfl dX1_checkStates_15 ?_
      refine lv_iload_n hx hb dX1_checkStates_18 rfl (lv_at hl 1 rfl) ?_
      obtain ⟨c5, h⟩ := g_no h
      refine zx_iald (n := 2) F hW (by decide) zx_E18 c5 dX1_checkStates_19 ?_
      refine lv_aload_n hx hb dX1_checkStates_20 rfl (lv_at hl 0 rfl) ?_
      refine zx_get (C := RX1) (T := TX1) (N := 16) F hW wu_X1 (by decide) zx_E7 rfl 0 (by decide) wf_X1_12 rfl dX1_checkStates_21 ?_
      refine zx_get (C := RX0) (T := TX0) (N := 8) F hW wu_X0 (by decide) zx_E8 rfl 3 (by decide) wf_X1_195 rfl dX1_checkStates_24 ?_
      refine lv_icmp_ne (tgt := 34) hx hb dX1_checkStates_27 (by decide) (fun c6 => ?_) (fun c6 => ?_)
      · have h := g_f c6 h
        refine lv_iconst (v := 0) hx hb dX1_checkStates_34 (by decide) ?_
        exact k_X1_checkStates_L35  F hr ih  v1 (0 : Int32) S2 h _ _ _ hW hS (lv_sub hl [0, 1] rfl)
      · have h := g_t c6 h
        refine lv_iconst (v := 1) hx hb dX1_checkStates_30 (by decide) ?_
        refine lv_goto (tgt := 35) hx hb dX1_checkStates_31 (by decide) ?_
        exact k_X1_checkStates_L35  F hr ih  v1 (1 : Int32) S2 h _ _ _ hW hS (lv_sub hl [0, 1] rfl)
set_option maxHeartbeats 4000000 in
set_option maxRecDepth 100000 in
theorem c_X1_checkStates (l : Launch) (D : va_G) (a : Nat → Nat) (cs : zx_C) (fu : Nat)   (S : St) (r9 : Int32) (S9 : St) (h : f_X1_checkStates fu  S = some (r9, S9)) : Met l yX1_checkStates (Cond.code yX1_checkStates cX1_checkStates 2 none :: zx_tb) ({ frames := 2, cells := 0, slots := 0, locals := 43 }) (zx_P D a cs [.ref (a 7)] S) (zx_Qv D a cs S9) 0 0 (zx_A a) := by
  refine zx_met (own := RX1) (by decide) (Nat.le_of_ble_eq_true rfl) rfl ?_
  intro p e s m below meth c ls F hr hW hS hl
  have hl : lv_has ls 2 [(0, .ref (a 7))] := hl
  obtain ⟨⟨hx, hb, hml, hown, hts⟩, hlk, hK, hJ, hN⟩ := id F
  unfold f_X1_checkStates at h
  refine lv_iconst (v := 0) hx hb dX1_checkStates_0 (by decide) ?_
  refine lv_istore_n (lv' := [(1, .int (0 : Int32)), (0, .ref (a 7))]) hx hb dX1_checkStates_1 rfl hl (by decide) rfl (fun ls hl => ?_)
  exact k_X1_checkStates_L2  F hr   fu (0 : Int32) S h _ _ _ hW hS (lv_sub hl [1, 0] rfl)
theorem Y_X1_exchangeTable : zx_Y yX1_exchangeTable cX1_exchangeTable 3 (some (.object "ShareCoder$Table")) 1 := ⟨wc_X1_exchangeTable, wn_X1, by decide, by decide, by decide +kernel⟩
set_option maxHeartbeats 4000000 in
set_option maxRecDepth 100000 in
theorem c_X1_exchangeTable (l : Launch) (D : va_G) (a : Nat → Nat) (cs : zx_C) (k0 : Nat) (hk0 : zx_tab k0 = true) (S : St) (r9 : Int32) (S9 : St) (h : f_X1_exchangeTable k0 S = some (r9, S9)) : Met l yX1_exchangeTable (Cond.code yX1_exchangeTable cX1_exchangeTable 3 (some (.object "ShareCoder$Table")) :: zx_tb) ({ frames := 0, cells := 0, slots := 0, locals := 0 }) (zx_P D a cs [.ref (a 7), .ref (a k0)] S) (zx_Qa D a cs r9 S9) 0 0 (zx_A a) := by
  refine zx_met (own := RX1) (by decide) (Nat.le_of_ble_eq_true rfl) rfl ?_
  intro p e s m below meth c ls F hr hW hS hl
  have hl : lv_has ls 3 [(0, .ref (a 7)), (1, .ref (a k0))] := hl
  obtain ⟨⟨hx, hb, hml, hown, hts⟩, hlk, hK, hJ, hN⟩ := id F
  unfold f_X1_exchangeTable at h
  refine lv_aload_n hx hb dX1_exchangeTable_0 rfl (lv_at hl 0 rfl) ?_
  obtain ⟨kt2, ekt2, h⟩ := g_pin h
  obtain ⟨hk1, h⟩ := g_ok h
  refine zx_get (C := RX1) (T := TX1) (N := 16) F hW wu_X1 (by decide) zx_E7 rfl 4 (by decide) wf_X1_36 rfl dX1_exchangeTable_1 ?_
  rw [zx_rfo_tab (by rw [← ekt2]; exact hk1), ← ekt2]
  refine lv_astore_n (lv' := [(2, .ref (a kt2)), (0, .ref (a 7)), (1, .ref (a k0))]) hx hb dX1_exchangeTable_4 rfl hl (by decide) rfl (fun ls hl => ?_)
  refine lv_aload_n hx hb dX1_exchangeTable_5 rfl (lv_at hl 1 rfl) ?_
  refine lv_aload_n hx hb dX1_exchangeTable_6 rfl (lv_at hl 2 rfl) ?_
  obtain ⟨S3, eS3, h⟩ := g_pin h
  refine zx_putv (C := RX1) (T := TX1) (N := 16) F hW hS wu_X1 tyX1_ok nmX1 (by decide) zx_E7 rfl 4 (by decide) wf_X1_36 rfl (nI k0) rfl rfl (Nat.le_of_ble_eq_true rfl) (by rw [← zx_rfo_nI (zx_tab_0 hk0) (zx_tab_l hk0).1]; rfl) dX1_exchangeTable_7 (fun H locs hW hS => ?_)
  have hW : zx_W D a cs S3 H := by rw [eS3]; exact hW
  refine lv_aload_n hx hb dX1_exchangeTable_10 rfl (lv_at hl 0 rfl) ?_
  exact zx_ra (x := nI kt2) F hr (zx_rfo_nI (zx_tab_0 hk1) (zx_tab_l hk1).1).symm hW hS h dX1_exchangeTable_11
theorem Y_X1_findPayload : zx_Y yX1_findPayload cX1_findPayload 1 none 0 := ⟨wc_X1_findPayload, wn_X1, by decide, by decide, by decide +kernel⟩
set_option maxHeartbeats 4000000 in
set_option maxRecDepth 100000 in
theorem k_X1_findPayload_L65 {l : Launch} {D : va_G} {a : Nat → Nat} {cs : zx_C} {p : Program} {e : Env} {s : State} {m : MethodId} {below : List Frame} {meth : Method} {c : Code}   (F : zx_F D a cs p m c cX1_findPayload 1 s ([.ref (a 7)] : List Value).toArray RX1 meth) (hr : meth.sig.returnType = none) {r9 : Int32} {S9 : St}    (t0 : Int32) (S : St) (h : f_X1_findPayload_L65    t0 S = some (r9, S9)) (H : Heap) (locs : List Loc) (ls : Array Slot) (hW : zx_W D a cs S H) (hS : va_S (zx_A a) s.heap H locs) (hl : lv_has ls 1 [(0, .ref (a 7))]) : W p l e ({ frames := 2, cells := 0, slots := 0, locals := 43 }) s m ([.ref (a 7)] : List Value).toArray below meth c H locs 0 0 (MQ below (zx_Qv D a cs S9) ([.ref (a 7)] : List Value).toArray s 0 0 (zx_A a)) (F0 m 65 ls [.int t0, .ref (a 7)]) := by
  obtain ⟨⟨hx, hb, hml, hown, hts⟩, hlk, hK, hJ, hN⟩ := id F
  unfold f_X1_findPayload_L65 at h
  refine lv_bipush (v := 8) hx hb dX1_findPayload_65 (by decide) ?_
  refine lv_aload_n hx hb dX1_findPayload_67 rfl (lv_at hl 0 rfl) ?_
  refine zx_get (C := RX1) (T := TX1) (N := 16) F hW wu_X1 (by decide) zx_E7 rfl 8 (by decide) wf_X1_51 rfl dX1_findPayload_68 ?_
  refine lv_aload_n hx hb dX1_findPayload_71 rfl (lv_at hl 0 rfl) ?_
  refine zx_get (C := RX1) (T := TX1) (N := 16) F hW wu_X1 (by decide) zx_E7 rfl 14 (by decide) wf_X1_69 rfl dX1_findPayload_72 ?_
  refine lv_iadd hx hb dX1_findPayload_75 ?_
  obtain ⟨r17, S18, h19, h⟩ := g_bd h
  refine zx_cv (zx_runV (q := (RX1, TX1, 16)) (As := [.int t0, .int (8 : Int32), .int ((S 7 8) + (S 7 14))]) (rest := []) F hW (c_X1_demand l D a cs t0 (8 : Int32) ((S 7 8) + (S 7 14))  S r17 S18 h19) Y_X1_demand wi_X1_demand ws_X1_demand wm_X1_124 ⟨rfl, rfl, Nat.le_of_ble_eq_true rfl, Nat.le_of_ble_eq_true rfl, Nat.le_of_ble_eq_true rfl, Nat.le_of_ble_eq_true rfl⟩ (by decide) zx_E7 rfl rfl hl.1 rfl (Nat.le_of_ble_eq_true rfl) dX1_findPayload_76) hS (fun H locs hW hS => ?_)
  exact zx_rv F hr hW hS h dX1_findPayload_79
set_option maxHeartbeats 4000000 in
set_option maxRecDepth 100000 in
theorem k_X1_findPayload_L35 {l : Launch} {D : va_G} {a : Nat → Nat} {cs : zx_C} {p : Program} {e : Env} {s : State} {m : MethodId} {below : List Frame} {meth : Method} {c : Code}   (F : zx_F D a cs p m c cX1_findPayload 1 s ([.ref (a 7)] : List Value).toArray RX1 meth) (hr : meth.sig.returnType = none) {r9 : Int32} {S9 : St}    (t0 : Int32) (S : St) (h : f_X1_findPayload_L35    t0 S = some (r9, S9)) (H : Heap) (locs : List Loc) (ls : Array Slot) (hW : zx_W D a cs S H) (hS : va_S (zx_A a) s.heap H locs) (hl : lv_has ls 1 [(0, .ref (a 7))]) : W p l e ({ frames := 2, cells := 0, slots := 0, locals := 43 }) s m ([.ref (a 7)] : List Value).toArray below meth c H locs 0 0 (MQ below (zx_Qv D a cs S9) ([.ref (a 7)] : List Value).toArray s 0 0 (zx_A a)) (F0 m 35 ls [.int t0, .ref (a 7)]) := by
  obtain ⟨⟨hx, hb, hml, hown, hts⟩, hlk, hK, hJ, hN⟩ := id F
  unfold f_X1_findPayload_L35 at h
  refine lv_iconst (v := 1) hx hb dX1_findPayload_35 (by decide) ?_
  refine lv_aload_n hx hb dX1_findPayload_36 rfl (lv_at hl 0 rfl) ?_
  obtain ⟨r7, S8, h9, h⟩ := g_bd h
  refine zx_ci (zx_runV (q := (RX1, TX1, 16)) (As := []) (rest := [.int (1 : Int32), .int t0, .ref (a 7)]) F hW (c_X1_byteCount l D a cs   S r7 S8 h9) Y_X1_byteCount wi_X1_byteCount ws_X1_byteCount wm_X1_120 ⟨rfl, rfl, Nat.le_of_ble_eq_true rfl, Nat.le_of_ble_eq_true rfl, Nat.le_of_ble_eq_true rfl, Nat.le_of_ble_eq_true rfl⟩ (by decide) zx_E7 rfl rfl hl.1 rfl (Nat.le_of_ble_eq_true rfl) dX1_findPayload_37) hS (fun H locs hW hS => ?_)
  obtain ⟨r10, S11, h12, h⟩ := g_bd h
  refine zx_cv (zx_runV (q := (RX1, TX1, 16)) (As := [.int t0, .int (1 : Int32), .int r7]) (rest := []) F hW (c_X1_demand l D a cs t0 (1 : Int32) r7  S8 r10 S11 h12) Y_X1_demand wi_X1_demand ws_X1_demand wm_X1_124 ⟨rfl, rfl, Nat.le_of_ble_eq_true rfl, Nat.le_of_ble_eq_true rfl, Nat.le_of_ble_eq_true rfl, Nat.le_of_ble_eq_true rfl⟩ (by decide) zx_E7 rfl rfl hl.1 rfl (Nat.le_of_ble_eq_true rfl) dX1_findPayload_40) hS (fun H locs hW hS => ?_)
  refine lv_aload_n hx hb dX1_findPayload_43 rfl (lv_at hl 0 rfl) ?_
  refine lv_aload_n hx hb dX1_findPayload_44 rfl (lv_at hl 0 rfl) ?_
  refine zx_get (C := RX1) (T := TX1) (N := 16) F hW wu_X1 (by decide) zx_E7 rfl 8 (by decide) wf_X1_51 rfl dX1_findPayload_45 ?_
  refine lv_aload_n hx hb dX1_findPayload_48 rfl (lv_at hl 0 rfl) ?_
  refine zx_get (C := RX1) (T := TX1) (N := 16) F hW wu_X1 (by decide) zx_E7 rfl 14 (by decide) wf_X1_69 rfl dX1_findPayload_49 ?_
  refine lv_iadd hx hb dX1_findPayload_52 ?_
  refine lv_aload_n hx hb dX1_findPayload_53 rfl (lv_at hl 0 rfl) ?_
  obtain ⟨r13, S14, h15, h⟩ := g_bd h
  refine zx_ci (zx_runV (q := (RX1, TX1, 16)) (As := []) (rest := [.int ((S11 7 8) + (S11 7 14)), .ref (a 7)]) F hW (c_X1_byteCount l D a cs   S11 r13 S14 h15) Y_X1_byteCount wi_X1_byteCount ws_X1_byteCount wm_X1_120 ⟨rfl, rfl, Nat.le_of_ble_eq_true rfl, Nat.le_of_ble_eq_true rfl, Nat.le_of_ble_eq_true rfl, Nat.le_of_ble_eq_true rfl⟩ (by decide) zx_E7 rfl rfl hl.1 rfl (Nat.le_of_ble_eq_true rfl) dX1_findPayload_54) hS (fun H locs hW hS => ?_)
  refine lv_icmp_ne (tgt := 64) hx hb dX1_findPayload_57 (by decide) (fun c16 => ?_) (fun c16 => ?_)
  · have h := g_f c16 h
    refine lv_iconst (v := 0) hx hb dX1_findPayload_64 (by decide) ?_
    exact k_X1_findPayload_L65  F hr   (0 : Int32) S14 h _ _ _ hW hS (lv_sub hl [0] rfl)
  · have h := g_t c16 h
    refine lv_iconst (v := 1) hx hb dX1_findPayload_60 (by decide) ?_
    refine lv_goto (tgt := 65) hx hb dX1_findPayload_61 (by decide) ?_
    exact k_X1_findPayload_L65  F hr   (1 : Int32) S14 h _ _ _ hW hS (lv_sub hl [0] rfl)
set_option maxHeartbeats 4000000 in
set_option maxRecDepth 100000 in
theorem c_X1_findPayload (l : Launch) (D : va_G) (a : Nat → Nat) (cs : zx_C)   (S : St) (r9 : Int32) (S9 : St) (h : f_X1_findPayload  S = some (r9, S9)) : Met l yX1_findPayload (Cond.code yX1_findPayload cX1_findPayload 1 none :: zx_tb) ({ frames := 2, cells := 0, slots := 0, locals := 43 }) (zx_P D a cs [.ref (a 7)] S) (zx_Qv D a cs S9) 0 0 (zx_A a) := by
  refine zx_met (own := RX1) (by decide) (Nat.le_of_ble_eq_true rfl) rfl ?_
  intro p e s m below meth c ls F hr hW hS hl
  have hl : lv_has ls 1 [(0, .ref (a 7))] := hl
  obtain ⟨⟨hx, hb, hml, hown, hts⟩, hlk, hK, hJ, hN⟩ := id F
  unfold f_X1_findPayload at h
  refine lv_aload_n hx hb dX1_findPayload_0 rfl (lv_at hl 0 rfl) ?_
  refine lv_aload_n hx hb dX1_findPayload_1 rfl (lv_at hl 0 rfl) ?_
  refine zx_get (C := RX1) (T := TX1) (N := 16) F hW wu_X1 (by decide) zx_E7 rfl 8 (by decide) wf_X1_51 rfl dX1_findPayload_2 ?_
  obtain ⟨S1, eS1, h⟩ := g_pin h
  refine zx_putv (C := RX1) (T := TX1) (N := 16) F hW hS wu_X1 tyX1_ok nmX1 (by decide) zx_E7 rfl 13 (by decide) wf_X1_66 rfl (S 7 8) rfl rfl (Nat.le_of_ble_eq_true rfl) rfl dX1_findPayload_5 (fun H locs hW hS => ?_)
  have hW : zx_W D a cs S1 H := by rw [eS1]; exact hW
  refine lv_aload_n hx hb dX1_findPayload_8 rfl (lv_at hl 0 rfl) ?_
  refine lv_iconst (v := 0) hx hb dX1_findPayload_9 (by decide) ?_
  obtain ⟨S2, eS2, h⟩ := g_pin h
  refine zx_putv (C := RX1) (T := TX1) (N := 16) F hW hS wu_X1 tyX1_ok nmX1 (by decide) zx_E7 rfl 15 (by decide) wf_X1_72 rfl (0 : Int32) rfl rfl (Nat.le_of_ble_eq_true rfl) rfl dX1_findPayload_10 (fun H locs hW hS => ?_)
  have hW : zx_W D a cs S2 H := by rw [eS2]; exact hW
  refine lv_aload_n hx hb dX1_findPayload_13 rfl (lv_at hl 0 rfl) ?_
  refine lv_aload_n hx hb dX1_findPayload_14 rfl (lv_at hl 0 rfl) ?_
  refine zx_get (C := RX1) (T := TX1) (N := 16) F hW wu_X1 (by decide) zx_E7 rfl 8 (by decide) wf_X1_51 rfl dX1_findPayload_15 ?_
  refine lv_aload_n hx hb dX1_findPayload_18 rfl (lv_at hl 0 rfl) ?_
  refine zx_get (C := RX1) (T := TX1) (N := 16) F hW wu_X1 (by decide) zx_E7 rfl 14 (by decide) wf_X1_69 rfl dX1_findPayload_19 ?_
  refine lv_iadd hx hb dX1_findPayload_22 ?_
  refine lv_aload_n hx hb dX1_findPayload_23 rfl (lv_at hl 0 rfl) ?_
  obtain ⟨r3, S4, h5, h⟩ := g_bd h
  refine zx_ci (zx_runV (q := (RX1, TX1, 16)) (As := []) (rest := [.int ((S2 7 8) + (S2 7 14)), .ref (a 7)]) F hW (c_X1_byteCount l D a cs   S2 r3 S4 h5) Y_X1_byteCount wi_X1_byteCount ws_X1_byteCount wm_X1_120 ⟨rfl, rfl, Nat.le_of_ble_eq_true rfl, Nat.le_of_ble_eq_true rfl, Nat.le_of_ble_eq_true rfl, Nat.le_of_ble_eq_true rfl⟩ (by decide) zx_E7 rfl rfl hl.1 rfl (Nat.le_of_ble_eq_true rfl) dX1_findPayload_24) hS (fun H locs hW hS => ?_)
  refine lv_icmp_gt (tgt := 34) hx hb dX1_findPayload_27 (by decide) (fun c6 => ?_) (fun c6 => ?_)
  · have h := g_t c6 h
    refine lv_iconst (v := 0) hx hb dX1_findPayload_34 (by decide) ?_
    exact k_X1_findPayload_L35  F hr   (0 : Int32) S4 h _ _ _ hW hS (lv_sub hl [0] rfl)
  · have h := g_f c6 h
    refine lv_iconst (v := 1) hx hb dX1_findPayload_30 (by decide) ?_
    refine lv_goto (tgt := 35) hx hb dX1_findPayload_31 (by decide) ?_
    exact k_X1_findPayload_L35  F hr   (1 : Int32) S4 h _ _ _ hW hS (lv_sub hl [0] rfl)
theorem Y_X1_readNumber : zx_Y yX1_readNumber cX1_readNumber 4 (some (.int)) 1 := ⟨wc_X1_readNumber, wn_X1, by decide, by decide, by decide +kernel⟩
set_option maxHeartbeats 4000000 in
set_option maxRecDepth 100000 in
theorem k_X1_readNumber_L40 {l : Launch} {D : va_G} {a : Nat → Nat} {cs : zx_C} {p : Program} {e : Env} {s : State} {m : MethodId} {below : List Frame} {meth : Method} {c : Code} {fu : Nat} {p0 : Int32}  (F : zx_F D a cs p m c cX1_readNumber 4 s ([.ref (a 7), .int p0] : List Value).toArray RX1 meth) (hr : meth.sig.returnType = (some (.int))) {r9 : Int32} {S9 : St}    : ∀ (n : Nat) (v1 : Int32) (v2 : Int32) (v3 : Int32) (S : St), f_X1_readNumber_L40 fu p0   n v1 v2 v3 S = some (r9, S9) → ∀ (H : Heap) (locs : List Loc) (ls : Array Slot), zx_W D a cs S H → va_S (zx_A a) s.heap H locs → lv_has ls 4 [(0, .ref (a 7)), (1, .int v1), (2, .int v2), (3, .int v3)] → W p l e ({ frames := 2, cells := 0, slots := 0, locals := 43 }) s m ([.ref (a 7), .int p0] : List Value).toArray below meth c H locs 0 0 (MQ below (zx_Qi D a cs r9 S9) ([.ref (a 7), .int p0] : List Value).toArray s 0 0 (zx_A a)) (F0 m 40 ls []) := by
  obtain ⟨⟨hx, hb, hml, hown, hts⟩, hlk, hK, hJ, hN⟩ := id F
  intro n
  induction n with
  | zero =>
    intro v1 v2 v3 S h
    exact absurd h (fun q => by cases q)
  | succ n ih =>
    intro v1 v2 v3 S h H locs ls hW hS hl
    rw [f_X1_readNumber_L40_s] at h
    refine lv_iload_n hx hb dX1_readNumber_40 rfl (lv_at hl 3 rfl) ?_
    refine lv_iload_n hx hb dX1_readNumber_41 rfl (lv_at hl 1 rfl) ?_
    refine lv_icmp_ge (tgt := 75) hx hb dX1_readNumber_42 (by decide) (fun c15 => ?_) (fun c15 => ?_)
    · have h := g_t c15 h
      refine lv_iload_n hx hb dX1_readNumber_75 rfl (lv_at hl 2 rfl) ?_
      exact zx_ri F hr hW hS h dX1_readNumber_76
    · have h := g_f c15 h
      refine lv_iload_n hx hb dX1_readNumber_45 rfl (lv_at hl 2 rfl) ?_
      refine lv_bipush (v := 8) hx hb dX1_readNumber_46 (by decide) ?_
      refine lv_ishl hx hb dX1_readNumber_48 ?_
      refine lv_aload_n hx hb dX1_readNumber_49 rfl (lv_at hl 0 rfl) ?_
      refine lv_aload_n hx hb dX1_readNumber_50 rfl (lv_at hl 0 rfl) ?_
      refine zx_get (C := RX1) (T := TX1) (N := 16) F hW wu_X1 (by decide) zx_E7 rfl 8 (by decide) wf_X1_51 rfl dX1_readNumber_51 ?_
      obtain ⟨r16, S17, h18, h⟩ := g_bd h
      refine zx_ci (zx_runV (q := (RX1, TX1, 16)) (As := [.int (S 7 8)]) (rest := [.int (v2 <<< ((8 : Int32) &&& 31))]) F hW (c_X1_byteAt l D a cs (S 7 8)  S r16 S17 h18) Y_X1_byteAt wi_X1_byteAt ws_X1_byteAt wm_X1_128 ⟨rfl, rfl, Nat.le_of_ble_eq_true rfl, Nat.le_of_ble_eq_true rfl, Nat.le_of_ble_eq_true rfl, Nat.le_of_ble_eq_true rfl⟩ (by decide) zx_E7 rfl rfl hl.1 rfl (Nat.le_of_ble_eq_true rfl) dX1_readNumber_54) hS (fun H locs hW hS => ?_)
      refine lv_ior hx hb dX1_readNumber_57 ?_
      obtain ⟨x19, ex19, h⟩ := g_pin h
      refine zx_nm ex19 ?_
      refine lv_istore_n (lv' := [(2, .int x19), (0, .ref (a 7)), (1, .int v1), (3, .int v3)]) hx hb dX1_readNumber_58 rfl hl (by decide) rfl (fun ls hl => ?_)
      refine lv_aload_n hx hb dX1_readNumber_59 rfl (lv_at hl 1 rfl) ?_
      refine lv_dup hx hb dX1_readNumber_60 rfl ?_
      refine zx_get (C := RX1) (T := TX1) (N := 16) F hW wu_X1 (by decide) zx_E7 rfl 8 (by decide) wf_X1_51 rfl dX1_readNumber_61 ?_
      refine lv_iconst (v := 1) hx hb dX1_readNumber_64 (by decide) ?_
      refine lv_iadd hx hb dX1_readNumber_65 ?_
      obtain ⟨S20, eS20, h⟩ := g_pin h
      refine zx_putv (C := RX1) (T := TX1) (N := 16) F hW hS wu_X1 tyX1_ok nmX1 (by decide) zx_E7 rfl 8 (by decide) wf_X1_51 rfl ((S17 7 8) + (1 : Int32)) rfl rfl (Nat.le_of_ble_eq_true rfl) rfl dX1_readNumber_66 (fun H locs hW hS => ?_)
      have hW : zx_W D a cs S20 H := by rw [eS20]; exact hW
      obtain ⟨x21, ex21, h⟩ := g_pin h
      refine lv_iinc (v := x21) (lv' := [(3, .int x21), (2, .int x19), (0, .ref (a 7)), (1, .int v1)]) hx hb dX1_readNumber_69 hl (k := 3) rfl (by rw [ex21]; rfl) (by decide) rfl (fun ls hl => ?_)
      refine lv_goto (tgt := 40) hx hb dX1_readNumber_72 (by decide) ?_
      exact ih v1 x19 x21 S20 h _ _ _ hW hS (lv_sub hl [2, 3, 1, 0] rfl)
set_option maxHeartbeats 4000000 in
set_option maxRecDepth 100000 in
theorem k_X1_readNumber_L19 {l : Launch} {D : va_G} {a : Nat → Nat} {cs : zx_C} {p : Program} {e : Env} {s : State} {m : MethodId} {below : List Frame} {meth : Method} {c : Code} {fu : Nat} {p0 : Int32}  (F : zx_F D a cs p m c cX1_readNumber 4 s ([.ref (a 7), .int p0] : List Value).toArray RX1 meth) (hr : meth.sig.returnType = (some (.int))) {r9 : Int32} {S9 : St}    (v1 : Int32) (t0 : Int32) (S : St) (h : f_X1_readNumber_L19 fu p0   v1 t0 S = some (r9, S9)) (H : Heap) (locs : List Loc) (ls : Array Slot) (hW : zx_W D a cs S H) (hS : va_S (zx_A a) s.heap H locs) (hl : lv_has ls 4 [(0, .ref (a 7)), (1, .int v1)]) : W p l e ({ frames := 2, cells := 0, slots := 0, locals := 43 }) s m ([.ref (a 7), .int p0] : List Value).toArray below meth c H locs 0 0 (MQ below (zx_Qi D a cs r9 S9) ([.ref (a 7), .int p0] : List Value).toArray s 0 0 (zx_A a)) (F0 m 19 ls [.int t0, .ref (a 7)]) := by
  obtain ⟨⟨hx, hb, hml, hown, hts⟩, hlk, hK, hJ, hN⟩ := id F
  unfold f_X1_readNumber_L19 at h
  refine lv_iconst (v := 1) hx hb dX1_readNumber_19 (by decide) ?_
  refine lv_aload_n hx hb dX1_readNumber_20 rfl (lv_at hl 0 rfl) ?_
  obtain ⟨r5, S6, h7, h⟩ := g_bd h
  refine zx_ci (zx_runV (q := (RX1, TX1, 16)) (As := []) (rest := [.int (1 : Int32), .int t0, .ref (a 7)]) F hW (c_X1_byteCount l D a cs   S r5 S6 h7) Y_X1_byteCount wi_X1_byteCount ws_X1_byteCount wm_X1_120 ⟨rfl, rfl, Nat.le_of_ble_eq_true rfl, Nat.le_of_ble_eq_true rfl, Nat.le_of_ble_eq_true rfl, Nat.le_of_ble_eq_true rfl⟩ (by decide) zx_E7 rfl rfl hl.1 rfl (Nat.le_of_ble_eq_true rfl) dX1_readNumber_21) hS (fun H locs hW hS => ?_)
  obtain ⟨r8, S9, h10, h⟩ := g_bd h
  refine zx_cv (zx_runV (q := (RX1, TX1, 16)) (As := [.int t0, .int (1 : Int32), .int r5]) (rest := []) F hW (c_X1_demand l D a cs t0 (1 : Int32) r5  S6 r8 S9 h10) Y_X1_demand wi_X1_demand ws_X1_demand wm_X1_124 ⟨rfl, rfl, Nat.le_of_ble_eq_true rfl, Nat.le_of_ble_eq_true rfl, Nat.le_of_ble_eq_true rfl, Nat.le_of_ble_eq_true rfl⟩ (by decide) zx_E7 rfl rfl hl.1 rfl (Nat.le_of_ble_eq_true rfl) dX1_readNumber_24) hS (fun H locs hW hS => ?_)
  refine lv_aload_n hx hb dX1_readNumber_27 rfl (lv_at hl 0 rfl) ?_
  obtain ⟨r11, S12, h13, h⟩ := g_bd h
  refine zx_ci (zx_runV (q := (RX1, TX1, 16)) (As := []) (rest := []) F hW (c_X1_isWhole l D a cs   S9 r11 S12 h13) Y_X1_isWhole wi_X1_isWhole ws_X1_isWhole wm_X1_84 ⟨rfl, rfl, Nat.le_of_ble_eq_true rfl, Nat.le_of_ble_eq_true rfl, Nat.le_of_ble_eq_true rfl, Nat.le_of_ble_eq_true rfl⟩ (by decide) zx_E7 rfl rfl hl.1 rfl (Nat.le_of_ble_eq_true rfl) dX1_readNumber_28) hS (fun H locs hW hS => ?_)
  refine lv_if_ne (tgt := 36) hx hb dX1_readNumber_31 (by decide) (fun c14 => ?_) (fun c14 => ?_)
  · have h := g_f c14 h
    refine lv_iconst (v := 0) hx hb dX1_readNumber_36 (by decide) ?_
    refine lv_istore_n (lv' := [(2, .int (0 : Int32)), (0, .ref (a 7)), (1, .int v1)]) hx hb dX1_readNumber_37 rfl hl (by decide) rfl (fun ls hl => ?_)
    refine lv_iconst (v := 0) hx hb dX1_readNumber_38 (by decide) ?_
    refine lv_istore_n (lv' := [(3, .int (0 : Int32)), (2, .int (0 : Int32)), (0, .ref (a 7)), (1, .int v1)]) hx hb dX1_readNumber_39 rfl hl (by decide) rfl (fun ls hl => ?_)
    exact k_X1_readNumber_L40  F hr   fu v1 (0 : Int32) (0 : Int32) S12 h _ _ _ hW hS (lv_sub hl [2, 3, 1, 0] rfl)
  · have h := g_t c14 h
    refine lv_iconst (v := 0) hx hb dX1_readNumber_34 (by decide) ?_
    exact zx_ri F hr hW hS h dX1_readNumber_35
set_option maxHeartbeats 4000000 in
set_option maxRecDepth 100000 in
theorem c_X1_readNumber (l : Launch) (D : va_G) (a : Nat → Nat) (cs : zx_C) (fu : Nat) (p0 : Int32)  (S : St) (r9 : Int32) (S9 : St) (h : f_X1_readNumber fu p0 S = some (r9, S9)) : Met l yX1_readNumber (Cond.code yX1_readNumber cX1_readNumber 4 (some (.int)) :: zx_tb) ({ frames := 2, cells := 0, slots := 0, locals := 43 }) (zx_P D a cs [.ref (a 7), .int p0] S) (zx_Qi D a cs r9 S9) 0 0 (zx_A a) := by
  refine zx_met (own := RX1) (by decide) (Nat.le_of_ble_eq_true rfl) rfl ?_
  intro p e s m below meth c ls F hr hW hS hl
  have hl : lv_has ls 4 [(0, .ref (a 7)), (1, .int p0)] := hl
  obtain ⟨⟨hx, hb, hml, hown, hts⟩, hlk, hK, hJ, hN⟩ := id F
  unfold f_X1_readNumber at h
  refine lv_aload_n hx hb dX1_readNumber_0 rfl (lv_at hl 0 rfl) ?_
  refine lv_aload_n hx hb dX1_readNumber_1 rfl (lv_at hl 0 rfl) ?_
  refine zx_get (C := RX1) (T := TX1) (N := 16) F hW wu_X1 (by decide) zx_E7 rfl 8 (by decide) wf_X1_51 rfl dX1_readNumber_2 ?_
  refine lv_iload_n hx hb dX1_readNumber_5 rfl (lv_at hl 1 rfl) ?_
  refine lv_iadd hx hb dX1_readNumber_6 ?_
  refine lv_aload_n hx hb dX1_readNumber_7 rfl (lv_at hl 0 rfl) ?_
  obtain ⟨r1, S2, h3, h⟩ := g_bd h
  refine zx_ci (zx_runV (q := (RX1, TX1, 16)) (As := []) (rest := [.int ((S 7 8) + p0), .ref (a 7)]) F hW (c_X1_byteCount l D a cs   S r1 S2 h3) Y_X1_byteCount wi_X1_byteCount ws_X1_byteCount wm_X1_120 ⟨rfl, rfl, Nat.le_of_ble_eq_true rfl, Nat.le_of_ble_eq_true rfl, Nat.le_of_ble_eq_true rfl, Nat.le_of_ble_eq_true rfl⟩ (by decide) zx_E7 rfl rfl hl.1 rfl (Nat.le_of_ble_eq_true rfl) dX1_readNumber_8) hS (fun H locs hW hS => ?_)
  refine lv_icmp_gt (tgt := 18) hx hb dX1_readNumber_11 (by decide) (fun c4 => ?_) (fun c4 => ?_)
  · have h := g_t c4 h
    refine lv_iconst (v := 0) hx hb dX1_readNumber_18 (by decide) ?_
    exact k_X1_readNumber_L19  F hr   p0 (0 : Int32) S2 h _ _ _ hW hS (lv_sub hl [0, 1] rfl)
  · have h := g_f c4 h
    refine lv_iconst (v := 1) hx hb dX1_readNumber_14 (by decide) ?_
    refine lv_goto (tgt := 19) hx hb dX1_readNumber_15 (by decide) ?_
    exact k_X1_readNumber_L19  F hr   p0 (1 : Int32) S2 h _ _ _ hW hS (lv_sub hl [0, 1] rfl)

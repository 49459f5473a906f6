theorem Y_X5_forget : zx_Y yX5_forget cX5_forget 1 none 0 := ⟨wc_X5_forget, wn_X5, by decide, by decide, by decide +kernel⟩
set_option maxHeartbeats 4000000 in
set_option maxRecDepth 100000 in
theorem c_X5_forget (l : Launch) (D : va_G) (a : Nat → Nat) (cs : zx_C)   (S : St) (r9 : Int32) (S9 : St) (h : f_X5_forget  S = some (r9, S9)) : Met l yX5_forget (Cond.code yX5_forget cX5_forget 1 none :: zx_tb) ({ frames := 0, cells := 0, slots := 0, locals := 0 }) (zx_P D a cs [.ref (a 9)] S) (zx_Qv D a cs S9) 0 0 (zx_A a) := by
  refine zx_met (own := RX5) (by decide) (Nat.le_of_ble_eq_true rfl) rfl ?_
  intro p e s m below meth c ls F hr hW hS hl
  have hl : lv_has ls 1 [(0, .ref (a 9))] := hl
  obtain ⟨⟨hx, hb, hml, hown, hts⟩, hlk, hK, hJ, hN⟩ := id F
  unfold f_X5_forget at h
  refine lv_aload_n hx hb dX5_forget_0 rfl (lv_at hl 0 rfl) ?_
  refine lv_null hx hb dX5_forget_1 ?_
  obtain ⟨S1, eS1, h⟩ := g_pin h
  refine zx_putv (C := RX5) (T := TX5) (N := 10) F hW hS wu_X5 tyX5_ok nmX5 (by decide) zx_E9 rfl 9 (by decide) wf_X5_40 rfl (0 : Int32) rfl rfl (Nat.le_of_ble_eq_true rfl) rfl dX5_forget_2 (fun H locs hW hS => ?_)
  have hW : zx_W D a cs S1 H := by rw [eS1]; exact hW
  exact zx_rv F hr hW hS h dX5_forget_5
theorem Y_X6_clear : zx_Y yX6_clear cX6_clear 2 none 1 := ⟨wc_X6_clear, wn_X6, by decide, by decide, by decide +kernel⟩
set_option maxHeartbeats 4000000 in
set_option maxRecDepth 100000 in
theorem c_X6_clear (l : Launch) (D : va_G) (a : Nat → Nat) (cs : zx_C) (fu : Nat) (k : Nat) (p0 : Int32) (hk : zx_tab k = true) (S : St) (r9 : Int32) (S9 : St) (h : f_X6_clear fu k p0 S = some (r9, S9)) : Met l yX6_clear (Cond.code yX6_clear cX6_clear 2 none :: zx_tb) ({ frames := 1, cells := 0, slots := 0, locals := 23 }) (zx_P D a cs [.ref (a k), .int p0] S) (zx_Qv D a cs S9) 0 0 (zx_A a) := by
  refine zx_met (own := RX6) (by decide) (Nat.le_of_ble_eq_true rfl) rfl ?_
  intro p e s m below meth c ls F hr hW hS hl
  have hl : lv_has ls 2 [(0, .ref (a k)), (1, .int p0)] := hl
  obtain ⟨⟨hx, hb, hml, hown, hts⟩, hlk, hK, hJ, hN⟩ := id F
  unfold f_X6_clear at h
  refine lv_aload_n hx hb dX6_clear_0 rfl (lv_at hl 0 rfl) ?_
  refine lv_iload_n hx hb dX6_clear_1 rfl (lv_at hl 1 rfl) ?_
  obtain ⟨S1, eS1, h⟩ := g_pin h
  refine zx_putv (C := RX6) (T := TX6) (N := 2) F hW hS wu_X6 tyX6_ok nmX6 (zx_tab_l hk).1 (zx_tab_E hk) rfl 1 (by decide) wf_X6_15 rfl p0 rfl rfl (Nat.le_of_ble_eq_true rfl) (by rw [(zx_tab_E hk)]; rfl) dX6_clear_2 (fun H locs hW hS => ?_)
  have hW : zx_W D a cs S1 H := by rw [eS1]; exact hW
  refine lv_aload_n hx hb dX6_clear_5 rfl (lv_at hl 0 rfl) ?_
  refine zx_get (C := RX6) (T := TX6) (N := 2) F hW wu_X6 (zx_tab_l hk).1 (zx_tab_E hk) rfl 0 (by decide) wf_X6_9 rfl dX6_clear_6 ?_
  refine lv_iconst (v := 0) hx hb dX6_clear_9 (by decide) ?_
  obtain ⟨r2, S3, h4, h⟩ := g_bd h
  refine zx_cv (zx_runS (As := [.ref (a (k + 1)), .int (0 : Int32)]) (rest := []) F hW (c_J7_fill_53178 l D a cs fu (k + 1) (0 : Int32) (zx_tab_ia hk).1 S1 r2 S3 h4) Y_J7_fill_53178 wt_J7_fill_53178 wm_X6_23 ⟨rfl, rfl, Nat.le_of_ble_eq_true rfl, Nat.le_of_ble_eq_true rfl, Nat.le_of_ble_eq_true rfl, Nat.le_of_ble_eq_true rfl⟩ rfl hl.1 rfl (Nat.le_of_ble_eq_true rfl) dX6_clear_10) hS (fun H locs hW hS => ?_)
  exact zx_rv F hr hW hS h dX6_clear_13
theorem Y_X8_isSpread : zx_Y yX8_isSpread cX8_isSpread 1 (some (.boolean)) 1 := ⟨wc_X8_isSpread, wn_X8, by decide, by decide, by decide +kernel⟩
set_option maxHeartbeats 4000000 in
set_option maxRecDepth 100000 in
theorem c_X8_isSpread (l : Launch) (D : va_G) (a : Nat → Nat) (cs : zx_C) (p0 : Int32)  (S : St) (r9 : Int32) (S9 : St) (h : f_X8_isSpread p0 S = some (r9, S9)) : Met l yX8_isSpread (Cond.code yX8_isSpread cX8_isSpread 1 (some (.boolean)) :: zx_tb) ({ frames := 0, cells := 0, slots := 0, locals := 0 }) (zx_P D a cs [.int p0] S) (zx_Qi D a cs r9 S9) 0 0 (zx_A a) := by
  refine zx_met (own := RX8) (by decide) (Nat.le_of_ble_eq_true rfl) rfl ?_
  intro p e s m below meth c ls F hr hW hS hl
  have hl : lv_has ls 1 [(0, .int p0)] := hl
  obtain ⟨⟨hx, hb, hml, hown, hts⟩, hlk, hK, hJ, hN⟩ := id F
  unfold f_X8_isSpread at h
  refine lv_iload_n hx hb dX8_isSpread_0 rfl (lv_at hl 0 rfl) ?_
  refine lv_if_lt (tgt := 13) hx hb dX8_isSpread_1 (by decide) (fun c1 => ?_) (fun c1 => ?_)
  · have h := g_t c1 h
    refine lv_iconst (v := 0) hx hb dX8_isSpread_13 (by decide) ?_
    exact zx_rz F hr (by decide) hW hS h dX8_isSpread_14
  · have h := g_f c1 h
    refine lv_iload_n hx hb dX8_isSpread_4 rfl (lv_at hl 0 rfl) ?_
    refine lv_iconst (v := 2) hx hb dX8_isSpread_5 (by decide) ?_
    refine lv_icmp_gt (tgt := 13) hx hb dX8_isSpread_6 (by decide) (fun c2 => ?_) (fun c2 => ?_)
    · have h := g_t c2 h
      refine lv_iconst (v := 0) hx hb dX8_isSpread_13 (by decide) ?_
      exact zx_rz F hr (by decide) hW hS h dX8_isSpread_14
    · have h := g_f c2 h
      refine lv_iconst (v := 1) hx hb dX8_isSpread_9 (by decide) ?_
      refine lv_goto (tgt := 14) hx hb dX8_isSpread_10 (by decide) ?_
      exact zx_rz F hr (by decide) hW hS h dX8_isSpread_14
theorem Y_X8_isCoding : zx_Y yX8_isCoding cX8_isCoding 2 (some (.boolean)) 2 := ⟨wc_X8_isCoding, wn_X8, by decide, by decide, by decide +kernel⟩
set_option maxHeartbeats 4000000 in
set_option maxRecDepth 100000 in
theorem k_X8_isCoding_L19 {l : Launch} {D : va_G} {a : Nat → Nat} {cs : zx_C} {p : Program} {e : Env} {s : State} {m : MethodId} {below : List Frame} {meth : Method} {c : Code} {p0 : Int32} {p1 : Int32}  (F : zx_F D a cs p m c cX8_isCoding 2 s ([.int p0, .int p1] : List Value).toArray RX8 meth) (hr : meth.sig.returnType = (some (.boolean))) {r9 : Int32} {S9 : St}    (v1 : Int32) (S : St) (h : f_X8_isCoding_L19 p0 p1   v1 S = some (r9, S9)) (H : Heap) (locs : List Loc) (ls : Array Slot) (hW : zx_W D a cs S H) (hS : va_S (zx_A a) s.heap H locs) (hl : lv_has ls 2 [(1, .int v1)]) : W p l e ({ frames := 1, cells := 0, slots := 0, locals := 20 }) s m ([.int p0, .int p1] : List Value).toArray below meth c H locs 0 0 (MQ below (zx_Qi D a cs r9 S9) ([.int p0, .int p1] : List Value).toArray s 0 0 (zx_A a)) (F0 m 19 ls []) := by
  obtain ⟨⟨hx, hb, hml, hown, hts⟩, hlk, hK, hJ, hN⟩ := id F
  unfold f_X8_isCoding_L19 at h
  refine lv_iload_n hx hb dX8_isCoding_19 rfl (lv_at hl 0 rfl) ?_
  refine lv_if_ne (tgt := 27) hx hb dX8_isCoding_20 (by decide) (fun c3 => ?_) (fun c3 => ?_)
  · have h := g_f c3 h
    refine lv_iconst (v := 0) hx hb dX8_isCoding_27 (by decide) ?_
    exact zx_rz F hr (by decide) hW hS h dX8_isCoding_28
  · have h := g_t c3 h
    refine lv_iconst (v := 1) hx hb dX8_isCoding_23 (by decide) ?_
    refine lv_goto (tgt := 28) hx hb dX8_isCoding_24 (by decide) ?_
    exact zx_rz F hr (by decide) hW hS h dX8_isCoding_28
set_option maxHeartbeats 4000000 in
set_option maxRecDepth 100000 in
theorem c_X8_isCoding (l : Launch) (D : va_G) (a : Nat → Nat) (cs : zx_C) (p0 : Int32) (p1 : Int32)  (S : St) (r9 : Int32) (S9 : St) (h : f_X8_isCoding p0 p1 S = some (r9, S9)) : Met l yX8_isCoding (Cond.code yX8_isCoding cX8_isCoding 2 (some (.boolean)) :: zx_tb) ({ frames := 1, cells := 0, slots := 0, locals := 20 }) (zx_P D a cs [.int p0, .int p1] S) (zx_Qi D a cs r9 S9) 0 0 (zx_A a) := by
  refine zx_met (own := RX8) (by decide) (Nat.le_of_ble_eq_true rfl) rfl ?_
  intro p e s m below meth c ls F hr hW hS hl
  have hl : lv_has ls 2 [(0, .int p0), (1, .int p1)] := hl
  obtain ⟨⟨hx, hb, hml, hown, hts⟩, hlk, hK, hJ, hN⟩ := id F
  unfold f_X8_isCoding at h
  refine lv_iload_n hx hb dX8_isCoding_0 rfl (lv_at hl 0 rfl) ?_
  refine lv_if_ne (tgt := 9) hx hb dX8_isCoding_1 (by decide) (fun c1 => ?_) (fun c1 => ?_)
  · have h := g_f c1 h
    refine lv_iload_n hx hb dX8_isCoding_9 rfl (lv_at hl 0 rfl) ?_
    refine lv_iconst (v := 1) hx hb dX8_isCoding_10 (by decide) ?_
    refine lv_icmp_eq (tgt := 19) hx hb dX8_isCoding_11 (by decide) (fun c2 => ?_) (fun c2 => ?_)
    · have h := g_t c2 h
      exact k_X8_isCoding_L19  F hr   p1 S h _ _ _ hW hS (lv_sub hl [1] rfl)
    · have h := g_f c2 h
      refine lv_iload_n hx hb dX8_isCoding_14 rfl (lv_at hl 0 rfl) ?_
      refine lv_iconst (v := 2) hx hb dX8_isCoding_15 (by decide) ?_
      refine lv_icmp_ne (tgt := 27) hx hb dX8_isCoding_16 (by decide) (fun c4 => ?_) (fun c4 => ?_)
      · have h := g_f c4 h
        refine lv_iconst (v := 0) hx hb dX8_isCoding_27 (by decide) ?_
        exact zx_rz F hr (by decide) hW hS h dX8_isCoding_28
      · have h := g_t c4 h
        exact k_X8_isCoding_L19  F hr   p1 S h _ _ _ hW hS (lv_sub hl [1] rfl)
  · have h := g_t c1 h
    refine lv_iload_n hx hb dX8_isCoding_4 rfl (lv_at hl 1 rfl) ?_
    obtain ⟨r5, S6, h7, h⟩ := g_bd h
    refine zx_ci (zx_runS (As := [.int p1]) (rest := []) F hW (c_X8_isSpread l D a cs p1  S r5 S6 h7) Y_X8_isSpread wt_X8_isSpread wm_X8_215 ⟨rfl, rfl, Nat.le_of_ble_eq_true rfl, Nat.le_of_ble_eq_true rfl, Nat.le_of_ble_eq_true rfl, Nat.le_of_ble_eq_true rfl⟩ rfl hl.1 rfl (Nat.le_of_ble_eq_true rfl) dX8_isCoding_5) hS (fun H locs hW hS => ?_)
    obtain ⟨c8, h⟩ := g_ok h
    exact zx_rz F hr c8 hW hS h dX8_isCoding_8
theorem Y_X8_isLog : zx_Y yX8_isLog cX8_isLog 1 (some (.boolean)) 1 := ⟨wc_X8_isLog, wn_X8, by decide, by decide, by decide +kernel⟩
set_option maxHeartbeats 4000000 in
set_option maxRecDepth 100000 in
theorem c_X8_isLog (l : Launch) (D : va_G) (a : Nat → Nat) (cs : zx_C) (p0 : Int32)  (S : St) (r9 : Int32) (S9 : St) (h : f_X8_isLog p0 S = some (r9, S9)) : Met l yX8_isLog (Cond.code yX8_isLog cX8_isLog 1 (some (.boolean)) :: zx_tb) ({ frames := 0, cells := 0, slots := 0, locals := 0 }) (zx_P D a cs [.int p0] S) (zx_Qi D a cs r9 S9) 0 0 (zx_A a) := by
  refine zx_met (own := RX8) (by decide) (Nat.le_of_ble_eq_true rfl) rfl ?_
  intro p e s m below meth c ls F hr hW hS hl
  have hl : lv_has ls 1 [(0, .int p0)] := hl
  obtain ⟨⟨hx, hb, hml, hown, hts⟩, hlk, hK, hJ, hN⟩ := id F
  unfold f_X8_isLog at h
  refine lv_iload_n hx hb dX8_isLog_0 rfl (lv_at hl 0 rfl) ?_
  refine lv_iconst (v := 1) hx hb dX8_isLog_1 (by decide) ?_
  refine lv_icmp_lt (tgt := 15) hx hb dX8_isLog_2 (by decide) (fun c1 => ?_) (fun c1 => ?_)
  · have h := g_t c1 h
    refine lv_iconst (v := 0) hx hb dX8_isLog_15 (by decide) ?_
    exact zx_rz F hr (by decide) hW hS h dX8_isLog_16
  · have h := g_f c1 h
    refine lv_iload_n hx hb dX8_isLog_5 rfl (lv_at hl 0 rfl) ?_
    refine lv_bipush (v := 12) hx hb dX8_isLog_6 (by decide) ?_
    refine lv_icmp_gt (tgt := 15) hx hb dX8_isLog_8 (by decide) (fun c2 => ?_) (fun c2 => ?_)
    · have h := g_t c2 h
      refine lv_iconst (v := 0) hx hb dX8_isLog_15 (by decide) ?_
      exact zx_rz F hr (by decide) hW hS h dX8_isLog_16
    · have h := g_f c2 h
      refine lv_iconst (v := 1) hx hb dX8_isLog_11 (by decide) ?_
      refine lv_goto (tgt := 16) hx hb dX8_isLog_12 (by decide) ?_
      exact zx_rz F hr (by decide) hW hS h dX8_isLog_16
theorem Y_X1_readHead : zx_Y yX1_readHead cX1_readHead 3 none 0 := ⟨wc_X1_readHead, wn_X1, by decide, by decide, by decide +kernel⟩
set_option maxHeartbeats 4000000 in
set_option maxRecDepth 100000 in
theorem k_X1_readHead_L16 {l : Launch} {D : va_G} {a : Nat → Nat} {cs : zx_C} {p : Program} {e : Env} {s : State} {m : MethodId} {below : List Frame} {meth : Method} {c : Code} {fu : Nat}   (F : zx_F D a cs p m c cX1_readHead 3 s ([.ref (a 7)] : List Value).toArray RX1 meth) (hr : meth.sig.returnType = none) {r9 : Int32} {S9 : St}    (t0 : Int32) (S : St) (h : f_X1_readHead_L16 fu    t0 S = some (r9, S9)) (H : Heap) (locs : List Loc) (ls : Array Slot) (hW : zx_W D a cs S H) (hS : va_S (zx_A a) s.heap H locs) (hl : lv_has ls 3 [(0, .ref (a 7))]) : W p l e ({ frames := 3, cells := 0, slots := 0, locals := 66 }) s m ([.ref (a 7)] : List Value).toArray below meth c H locs 0 0 (MQ below (zx_Qv D a cs S9) ([.ref (a 7)] : List Value).toArray s 0 0 (zx_A a)) (F0 m 16 ls [.int t0, .ref (a 7)]) := by
  obtain ⟨⟨hx, hb, hml, hown, hts⟩, hlk, hK, hJ, hN⟩ := id F
  unfold f_X1_readHead_L16 at h
  refine lv_iconst (v := 2) hx hb dX1_readHead_16 (by decide) ?_
  refine lv_iconst (v := 0) hx hb dX1_readHead_17 (by decide) ?_
  obtain ⟨r5, S6, h7, h⟩ := g_bd h
  refine zx_cv (zx_runV (q := (RX1, TX1, 16)) (As := [.int t0, .int (2 : Int32), .int (0 : Int32)]) (rest := []) F hW (c_X1_demand l D a cs t0 (2 : Int32) (0 : Int32)  S r5 S6 h7) Y_X1_demand wi_X1_demand ws_X1_demand wm_X1_124 ⟨rfl, rfl, Nat.le_of_ble_eq_true rfl, Nat.le_of_ble_eq_true rfl, Nat.le_of_ble_eq_true rfl, Nat.le_of_ble_eq_true rfl⟩ (by decide) zx_E7 rfl rfl hl.1 rfl (Nat.le_of_ble_eq_true rfl) dX1_readHead_18) hS (fun H locs hW hS => ?_)
  refine lv_aload_n hx hb dX1_readHead_21 rfl (lv_at hl 0 rfl) ?_
  refine lv_iconst (v := 1) hx hb dX1_readHead_22 (by decide) ?_
  obtain ⟨r8, S9, h10, h⟩ := g_bd h
  refine zx_ci (zx_runV (q := (RX1, TX1, 16)) (As := [.int (1 : Int32)]) (rest := []) F hW (c_X1_readNumber l D a cs fu (1 : Int32)  S6 r8 S9 h10) Y_X1_readNumber wi_X1_readNumber ws_X1_readNumber wm_X1_129 ⟨rfl, rfl, Nat.le_of_ble_eq_true rfl, Nat.le_of_ble_eq_true rfl, Nat.le_of_ble_eq_true rfl, Nat.le_of_ble_eq_true rfl⟩ (by decide) zx_E7 rfl rfl hl.1 rfl (Nat.le_of_ble_eq_true rfl) dX1_readHead_23) hS (fun H locs hW hS => ?_)
  refine lv_istore_n (lv' := [(1, .int r8), (0, .ref (a 7))]) hx hb dX1_readHead_26 rfl hl (by decide) rfl (fun ls hl => ?_)
  refine lv_aload_n hx hb dX1_readHead_27 rfl (lv_at hl 1 rfl) ?_
  refine lv_iload_n hx hb dX1_readHead_28 rfl (lv_at hl 0 rfl) ?_
  refine lv_iconst (v := 2) hx hb dX1_readHead_29 (by decide) ?_
  refine lv_ishr hx hb dX1_readHead_30 ?_
  obtain ⟨S11, eS11, h⟩ := g_pin h
  refine zx_putv (C := RX1) (T := TX1) (N := 16) F hW hS wu_X1 tyX1_ok nmX1 (by decide) zx_E7 rfl 9 (by decide) wf_X1_54 rfl (r8 >>> ((2 : Int32) &&& 31)) rfl rfl (Nat.le_of_ble_eq_true rfl) rfl dX1_readHead_31 (fun H locs hW hS => ?_)
  have hW : zx_W D a cs S11 H := by rw [eS11]; exact hW
  refine lv_aload_n hx hb dX1_readHead_34 rfl (lv_at hl 1 rfl) ?_
  refine lv_iload_n hx hb dX1_readHead_35 rfl (lv_at hl 0 rfl) ?_
  refine lv_iconst (v := 3) hx hb dX1_readHead_36 (by decide) ?_
  refine lv_iand hx hb dX1_readHead_37 ?_
  obtain ⟨S12, eS12, h⟩ := g_pin h
  refine zx_putv (C := RX1) (T := TX1) (N := 16) F hW hS wu_X1 tyX1_ok nmX1 (by decide) zx_E7 rfl 10 (by decide) wf_X1_57 rfl (r8 &&& (3 : Int32)) rfl rfl (Nat.le_of_ble_eq_true rfl) rfl dX1_readHead_38 (fun H locs hW hS => ?_)
  have hW : zx_W D a cs S12 H := by rw [eS12]; exact hW
  refine lv_aload_n hx hb dX1_readHead_41 rfl (lv_at hl 1 rfl) ?_
  refine lv_aload_n hx hb dX1_readHead_42 rfl (lv_at hl 1 rfl) ?_
  refine zx_get (C := RX1) (T := TX1) (N := 16) F hW wu_X1 (by decide) zx_E7 rfl 9 (by decide) wf_X1_54 rfl dX1_readHead_43 ?_
  refine lv_aload_n hx hb dX1_readHead_46 rfl (lv_at hl 1 rfl) ?_
  refine zx_get (C := RX1) (T := TX1) (N := 16) F hW wu_X1 (by decide) zx_E7 rfl 10 (by decide) wf_X1_57 rfl dX1_readHead_47 ?_
  obtain ⟨r13, S14, h15, h⟩ := g_bd h
  refine zx_ci (zx_runSN (As := [.int (S12 7 9), .int (S12 7 10)]) (rest := [.ref (a 7)]) F hW (c_X8_isCoding l D a cs (S12 7 9) (S12 7 10)  S12 r13 S14 h15) Y_X8_isCoding wt_X8_isCoding wN_X1_132 ⟨rfl, rfl, Nat.le_of_ble_eq_true rfl, Nat.le_of_ble_eq_true rfl, Nat.le_of_ble_eq_true rfl, Nat.le_of_ble_eq_true rfl⟩ rfl hl.1 rfl (Nat.le_of_ble_eq_true rfl) dX1_readHead_50) hS (fun H locs hW hS => ?_)
  refine lv_iconst (v := 2) hx hb dX1_readHead_53 (by decide) ?_
  refine lv_iconst (v := 1) hx hb dX1_readHead_54 (by decide) ?_
  obtain ⟨r16, S17, h18, h⟩ := g_bd h
  refine zx_cv (zx_runV (q := (RX1, TX1, 16)) (As := [.int r13, .int (2 : Int32), .int (1 : Int32)]) (rest := []) F hW (c_X1_demand l D a cs r13 (2 : Int32) (1 : Int32)  S14 r16 S17 h18) Y_X1_demand wi_X1_demand ws_X1_demand wm_X1_124 ⟨rfl, rfl, Nat.le_of_ble_eq_true rfl, Nat.le_of_ble_eq_true rfl, Nat.le_of_ble_eq_true rfl, Nat.le_of_ble_eq_true rfl⟩ (by decide) zx_E7 rfl rfl hl.1 rfl (Nat.le_of_ble_eq_true rfl) dX1_readHead_55) hS (fun H locs hW hS => ?_)
  refine lv_aload_n hx hb dX1_readHead_58 rfl (lv_at hl 1 rfl) ?_
  refine lv_iconst (v := 1) hx hb dX1_readHead_59 (by decide) ?_
  obtain ⟨r19, S20, h21, h⟩ := g_bd h
  refine zx_ci (zx_runV (q := (RX1, TX1, 16)) (As := [.int (1 : Int32)]) (rest := []) F hW (c_X1_readNumber l D a cs fu (1 : Int32)  S17 r19 S20 h21) Y_X1_readNumber wi_X1_readNumber ws_X1_readNumber wm_X1_129 ⟨rfl, rfl, Nat.le_of_ble_eq_true rfl, Nat.le_of_ble_eq_true rfl, Nat.le_of_ble_eq_true rfl, Nat.le_of_ble_eq_true rfl⟩ (by decide) zx_E7 rfl rfl hl.1 rfl (Nat.le_of_ble_eq_true rfl) dX1_readHead_60) hS (fun H locs hW hS => ?_)
  refine lv_istore_n (lv' := [(2, .int r19), (1, .int r8), (0, .ref (a 7))]) hx hb dX1_readHead_63 rfl hl (by decide) rfl (fun ls hl => ?_)
  refine lv_aload_n hx hb dX1_readHead_64 rfl (lv_at hl 2 rfl) ?_
  refine lv_iload_n hx hb dX1_readHead_65 rfl (lv_at hl 0 rfl) ?_
  obtain ⟨r22, S23, h24, h⟩ := g_bd h
  refine zx_ci (zx_runSN (As := [.int r19]) (rest := [.ref (a 7)]) F hW (c_X8_isLog l D a cs r19  S20 r22 S23 h24) Y_X8_isLog wt_X8_isLog wN_X1_136 ⟨rfl, rfl, Nat.le_of_ble_eq_true rfl, Nat.le_of_ble_eq_true rfl, Nat.le_of_ble_eq_true rfl, Nat.le_of_ble_eq_true rfl⟩ rfl hl.1 rfl (Nat.le_of_ble_eq_true rfl) dX1_readHead_66) hS (fun H locs hW hS => ?_)
  refine lv_iconst (v := 2) hx hb dX1_readHead_69 (by decide) ?_
  refine lv_iconst (v := 2) hx hb dX1_readHead_70 (by decide) ?_
  obtain ⟨r25, S26, h27, h⟩ := g_bd h
  refine zx_cv (zx_runV (q := (RX1, TX1, 16)) (As := [.int r22, .int (2 : Int32), .int (2 : Int32)]) (rest := []) F hW (c_X1_demand l D a cs r22 (2 : Int32) (2 : Int32)  S23 r25 S26 h27) Y_X1_demand wi_X1_demand ws_X1_demand wm_X1_124 ⟨rfl, rfl, Nat.le_of_ble_eq_true rfl, Nat.le_of_ble_eq_true rfl, Nat.le_of_ble_eq_true rfl, Nat.le_of_ble_eq_true rfl⟩ (by decide) zx_E7 rfl rfl hl.1 rfl (Nat.le_of_ble_eq_true rfl) dX1_readHead_71) hS (fun H locs hW hS => ?_)
  refine lv_aload_n hx hb dX1_readHead_74 rfl (lv_at hl 2 rfl) ?_
  refine zx_get (C := RX1) (T := TX1) (N := 16) F hW wu_X1 (by decide) zx_E7 rfl 0 (by decide) wf_X1_12 rfl dX1_readHead_75 ?_
  refine zx_get (C := RX0) (T := TX0) (N := 8) F hW wu_X0 (by decide) zx_E8 rfl 0 (by decide) wf_X1_140 rfl dX1_readHead_78 ?_
  obtain ⟨r28, S29, h30, h⟩ := g_bd h
  refine zx_cv (zx_runV (q := (RX5, TX5, 10)) (As := []) (rest := []) F hW (c_X5_forget l D a cs   S26 r28 S29 h30) Y_X5_forget wi_X5_forget ws_X5_forget wm_X1_144 ⟨rfl, rfl, Nat.le_of_ble_eq_true rfl, Nat.le_of_ble_eq_true rfl, Nat.le_of_ble_eq_true rfl, Nat.le_of_ble_eq_true rfl⟩ (by decide) zx_E9 rfl rfl hl.1 rfl (Nat.le_of_ble_eq_true rfl) dX1_readHead_81) hS (fun H locs hW hS => ?_)
  refine lv_aload_n hx hb dX1_readHead_84 rfl (lv_at hl 2 rfl) ?_
  obtain ⟨kt32, ekt32, h⟩ := g_pin h
  obtain ⟨hk31, h⟩ := g_ok h
  refine zx_get (C := RX1) (T := TX1) (N := 16) F hW wu_X1 (by decide) zx_E7 rfl 4 (by decide) wf_X1_36 rfl dX1_readHead_85 ?_
  rw [zx_rfo_tab (by rw [← ekt32]; exact hk31), ← ekt32]
  refine lv_iload_n hx hb dX1_readHead_88 rfl (lv_at hl 0 rfl) ?_
  obtain ⟨r33, S34, h35, h⟩ := g_bd h
  refine zx_ci (zx_runSN (As := [.int r19]) (rest := [.ref (a kt32)]) F hW (c_X8_isLog l D a cs r19  S29 r33 S34 h35) Y_X8_isLog wt_X8_isLog wN_X1_136 ⟨rfl, rfl, Nat.le_of_ble_eq_true rfl, Nat.le_of_ble_eq_true rfl, Nat.le_of_ble_eq_true rfl, Nat.le_of_ble_eq_true rfl⟩ rfl hl.1 rfl (Nat.le_of_ble_eq_true rfl) dX1_readHead_89) hS (fun H locs hW hS => ?_)
  refine lv_if_eq (tgt := 99) hx hb dX1_readHead_92 (by decide) (fun c36 => ?_) (fun c36 => ?_)
  · have h := g_t c36 h
    refine lv_iconst (v := 1) hx hb dX1_readHead_99 (by decide) ?_
    obtain ⟨r37, S38, h39, h⟩ := g_bd h
    refine zx_cv (zx_runV (q := (RX6, TX6, 2)) (As := [.int (1 : Int32)]) (rest := []) F hW (c_X6_clear l D a cs fu kt32 (1 : Int32) hk31 S34 r37 S38 h39) Y_X6_clear wi_X6_clear ws_X6_clear wm_X1_149 ⟨rfl, rfl, Nat.le_of_ble_eq_true rfl, Nat.le_of_ble_eq_true rfl, Nat.le_of_ble_eq_true rfl, Nat.le_of_ble_eq_true rfl⟩ (zx_tab_l hk31).1 (zx_tab_E hk31) rfl rfl hl.1 rfl (Nat.le_of_ble_eq_true rfl) dX1_readHead_100) hS (fun H locs hW hS => ?_)
    exact zx_rv F hr hW hS h dX1_readHead_103
  · have h := g_f c36 h
    refine lv_iload_n hx hb dX1_readHead_95 rfl (lv_at hl 0 rfl) ?_
    refine lv_goto (tgt := 100) hx hb dX1_readHead_96 (by decide) ?_
    obtain ⟨r40, S41, h42, h⟩ := g_bd h
    refine zx_cv (zx_runV (q := (RX6, TX6, 2)) (As := [.int r19]) (rest := []) F hW (c_X6_clear l D a cs fu kt32 r19 hk31 S34 r40 S41 h42) Y_X6_clear wi_X6_clear ws_X6_clear wm_X1_149 ⟨rfl, rfl, Nat.le_of_ble_eq_true rfl, Nat.le_of_ble_eq_true rfl, Nat.le_of_ble_eq_true rfl, Nat.le_of_ble_eq_true rfl⟩ (zx_tab_l hk31).1 (zx_tab_E hk31) rfl rfl hl.1 rfl (Nat.le_of_ble_eq_true rfl) dX1_readHead_100) hS (fun H locs hW hS => ?_)
    exact zx_rv F hr hW hS h dX1_readHead_103
set_option maxHeartbeats 4000000 in
set_option maxRecDepth 100000 in
theorem c_X1_readHead (l : Launch) (D : va_G) (a : Nat → Nat) (cs : zx_C) (fu : Nat)   (S : St) (r9 : Int32) (S9 : St) (h : f_X1_readHead fu  S = some (r9, S9)) : Met l yX1_readHead (Cond.code yX1_readHead cX1_readHead 3 none :: zx_tb) ({ frames := 3, cells := 0, slots := 0, locals := 66 }) (zx_P D a cs [.ref (a 7)] S) (zx_Qv D a cs S9) 0 0 (zx_A a) := by
  refine zx_met (own := RX1) (by decide) (Nat.le_of_ble_eq_true rfl) rfl ?_
  intro p e s m below meth c ls F hr hW hS hl
  have hl : lv_has ls 3 [(0, .ref (a 7))] := hl
  obtain ⟨⟨hx, hb, hml, hown, hts⟩, hlk, hK, hJ, hN⟩ := id F
  unfold f_X1_readHead at h
  refine lv_aload_n hx hb dX1_readHead_0 rfl (lv_at hl 0 rfl) ?_
  refine lv_aload_n hx hb dX1_readHead_1 rfl (lv_at hl 0 rfl) ?_
  refine lv_iconst (v := 1) hx hb dX1_readHead_2 (by decide) ?_
  obtain ⟨r1, S2, h3, h⟩ := g_bd h
  refine zx_ci (zx_runV (q := (RX1, TX1, 16)) (As := [.int (1 : Int32)]) (rest := [.ref (a 7)]) F hW (c_X1_readNumber l D a cs fu (1 : Int32)  S r1 S2 h3) Y_X1_readNumber wi_X1_readNumber ws_X1_readNumber wm_X1_129 ⟨rfl, rfl, Nat.le_of_ble_eq_true rfl, Nat.le_of_ble_eq_true rfl, Nat.le_of_ble_eq_true rfl, Nat.le_of_ble_eq_true rfl⟩ (by decide) zx_E7 rfl rfl hl.1 rfl (Nat.le_of_ble_eq_true rfl) dX1_readHead_3) hS (fun H locs hW hS => ?_)
  refine lv_bipush (v := 83) hx hb dX1_readHead_6 (by decide) ?_
  refine lv_icmp_ne (tgt := 15) hx hb dX1_readHead_8 (by decide) (fun c4 => ?_) (fun c4 => ?_)
  · have h := g_f c4 h
    refine lv_iconst (v := 0) hx hb dX1_readHead_15 (by decide) ?_
    exact k_X1_readHead_L16  F hr   (0 : Int32) S2 h _ _ _ hW hS (lv_sub hl [0] rfl)
  · have h := g_t c4 h
    refine lv_iconst (v := 1) hx hb dX1_readHead_11 (by decide) ?_
    refine lv_goto (tgt := 16) hx hb dX1_readHead_12 (by decide) ?_
    exact k_X1_readHead_L16  F hr   (1 : Int32) S2 h _ _ _ hW hS (lv_sub hl [0] rfl)
theorem Y_X1_readUnit : zx_Y yX1_readUnit cX1_readUnit 4 (some (.int)) 0 := ⟨wc_X1_readUnit, wn_X1, by decide, by decide, by decide +kernel⟩
set_option maxHeartbeats 4000000 in
set_option maxRecDepth 100000 in
theorem k_X1_readUnit_L30 {l : Launch} {D : va_G} {a : Nat → Nat} {cs : zx_C} {p : Program} {e : Env} {s : State} {m : MethodId} {below : List Frame} {meth : Method} {c : Code}   (F : zx_F D a cs p m c cX1_readUnit 4 s ([.ref (a 7)] : List Value).toArray RX1 meth) (hr : meth.sig.returnType = (some (.int))) {r9 : Int32} {S9 : St}    (v1 : Int32) (t0 : Int32) (S : St) (h : f_X1_readUnit_L30    v1 t0 S = some (r9, S9)) (H : Heap) (locs : List Loc) (ls : Array Slot) (hW : zx_W D a cs S H) (hS : va_S (zx_A a) s.heap H locs) (hl : lv_has ls 4 [(0, .ref (a 7)), (1, .int v1)]) : W p l e ({ frames := 2, cells := 0, slots := 0, locals := 43 }) s m ([.ref (a 7)] : List Value).toArray below meth c H locs 0 0 (MQ below (zx_Qi D a cs r9 S9) ([.ref (a 7)] : List Value).toArray s 0 0 (zx_A a)) (F0 m 30 ls [.int t0, .ref (a 7)]) := by
  obtain ⟨⟨hx, hb, hml, hown, hts⟩, hlk, hK, hJ, hN⟩ := id F
  unfold f_X1_readUnit_L30 at h
  refine lv_iconst (v := 5) hx hb dX1_readUnit_30 (by decide) ?_
  refine lv_aload_n hx hb dX1_readUnit_31 rfl (lv_at hl 0 rfl) ?_
  refine zx_get (C := RX1) (T := TX1) (N := 16) F hW wu_X1 (by decide) zx_E7 rfl 13 (by decide) wf_X1_66 rfl dX1_readUnit_32 ?_
  refine lv_aload_n hx hb dX1_readUnit_35 rfl (lv_at hl 0 rfl) ?_
  refine zx_get (C := RX1) (T := TX1) (N := 16) F hW wu_X1 (by decide) zx_E7 rfl 14 (by decide) wf_X1_69 rfl dX1_readUnit_36 ?_
  refine lv_iadd hx hb dX1_readUnit_39 ?_
  obtain ⟨r3, S4, h5, h⟩ := g_bd h
  refine zx_cv (zx_runV (q := (RX1, TX1, 16)) (As := [.int t0, .int (5 : Int32), .int ((S 7 13) + (S 7 14))]) (rest := []) F hW (c_X1_demand l D a cs t0 (5 : Int32) ((S 7 13) + (S 7 14))  S r3 S4 h5) Y_X1_demand wi_X1_demand ws_X1_demand wm_X1_124 ⟨rfl, rfl, Nat.le_of_ble_eq_true rfl, Nat.le_of_ble_eq_true rfl, Nat.le_of_ble_eq_true rfl, Nat.le_of_ble_eq_true rfl⟩ (by decide) zx_E7 rfl rfl hl.1 rfl (Nat.le_of_ble_eq_true rfl) dX1_readUnit_40) hS (fun H locs hW hS => ?_)
  refine lv_aload_n hx hb dX1_readUnit_43 rfl (lv_at hl 0 rfl) ?_
  obtain ⟨r6, S7, h8, h⟩ := g_bd h
  refine zx_ci (zx_runV (q := (RX1, TX1, 16)) (As := []) (rest := []) F hW (c_X1_isWhole l D a cs   S4 r6 S7 h8) Y_X1_isWhole wi_X1_isWhole ws_X1_isWhole wm_X1_84 ⟨rfl, rfl, Nat.le_of_ble_eq_true rfl, Nat.le_of_ble_eq_true rfl, Nat.le_of_ble_eq_true rfl, Nat.le_of_ble_eq_true rfl⟩ (by decide) zx_E7 rfl rfl hl.1 rfl (Nat.le_of_ble_eq_true rfl) dX1_readUnit_44) hS (fun H locs hW hS => ?_)
  refine lv_if_ne (tgt := 52) hx hb dX1_readUnit_47 (by decide) (fun c9 => ?_) (fun c9 => ?_)
  · have h := g_f c9 h
    refine lv_bipush (v := 8) hx hb dX1_readUnit_52 (by decide) ?_
    refine lv_iload_n hx hb dX1_readUnit_54 rfl (lv_at hl 1 rfl) ?_
    refine lv_isub hx hb dX1_readUnit_55 ?_
    refine lv_aload_n hx hb dX1_readUnit_56 rfl (lv_at hl 0 rfl) ?_
    refine zx_get (C := RX1) (T := TX1) (N := 16) F hW wu_X1 (by decide) zx_E7 rfl 15 (by decide) wf_X1_72 rfl dX1_readUnit_57 ?_
    refine lv_bipush (v := 8) hx hb dX1_readUnit_60 (by decide) ?_
    refine lv_irem hx hb dX1_readUnit_62 (by decide) ?_
    refine lv_isub hx hb dX1_readUnit_63 ?_
    obtain ⟨x10, ex10, h⟩ := g_pin h
    refine zx_nm ex10 ?_
    refine lv_istore_n (lv' := [(2, .int x10), (0, .ref (a 7)), (1, .int v1)]) hx hb dX1_readUnit_64 rfl hl (by decide) rfl (fun ls hl => ?_)
    refine lv_aload_n hx hb dX1_readUnit_65 rfl (lv_at hl 1 rfl) ?_
    refine lv_aload_n hx hb dX1_readUnit_66 rfl (lv_at hl 1 rfl) ?_
    refine zx_get (C := RX1) (T := TX1) (N := 16) F hW wu_X1 (by decide) zx_E7 rfl 13 (by decide) wf_X1_66 rfl dX1_readUnit_67 ?_
    refine lv_aload_n hx hb dX1_readUnit_70 rfl (lv_at hl 1 rfl) ?_
    refine zx_get (C := RX1) (T := TX1) (N := 16) F hW wu_X1 (by decide) zx_E7 rfl 15 (by decide) wf_X1_72 rfl dX1_readUnit_71 ?_
    refine lv_bipush (v := 8) hx hb dX1_readUnit_74 (by decide) ?_
    refine lv_idiv hx hb dX1_readUnit_76 (by decide) ?_
    refine lv_iadd hx hb dX1_readUnit_77 ?_
    obtain ⟨r11, S12, h13, h⟩ := g_bd h
    refine zx_ci (zx_runV (q := (RX1, TX1, 16)) (As := [.int ((S7 7 13) + ((S7 7 15) / (8 : Int32)))]) (rest := []) F hW (c_X1_byteAt l D a cs ((S7 7 13) + ((S7 7 15) / (8 : Int32)))  S7 r11 S12 h13) Y_X1_byteAt wi_X1_byteAt ws_X1_byteAt wm_X1_128 ⟨rfl, rfl, Nat.le_of_ble_eq_true rfl, Nat.le_of_ble_eq_true rfl, Nat.le_of_ble_eq_true rfl, Nat.le_of_ble_eq_true rfl⟩ (by decide) zx_E7 rfl rfl hl.1 rfl (Nat.le_of_ble_eq_true rfl) dX1_readUnit_78) hS (fun H locs hW hS => ?_)
    refine lv_iload_n hx hb dX1_readUnit_81 rfl (lv_at hl 0 rfl) ?_
    refine lv_ishr hx hb dX1_readUnit_82 ?_
    refine lv_iconst (v := 1) hx hb dX1_readUnit_83 (by decide) ?_
    refine lv_iload_n hx hb dX1_readUnit_84 rfl (lv_at hl 2 rfl) ?_
    refine lv_ishl hx hb dX1_readUnit_85 ?_
    refine lv_iconst (v := 1) hx hb dX1_readUnit_86 (by decide) ?_
    refine lv_isub hx hb dX1_readUnit_87 ?_
    refine lv_iand hx hb dX1_readUnit_88 ?_
    obtain ⟨x14, ex14, h⟩ := g_pin h
    refine zx_nm ex14 ?_
    refine lv_istore_n (lv' := [(3, .int x14), (2, .int x10), (0, .ref (a 7)), (1, .int v1)]) hx hb dX1_readUnit_89 rfl hl (by decide) rfl (fun ls hl => ?_)
    refine lv_aload_n hx hb dX1_readUnit_90 rfl (lv_at hl 2 rfl) ?_
    refine lv_dup hx hb dX1_readUnit_91 rfl ?_
    refine zx_get (C := RX1) (T := TX1) (N := 16) F hW wu_X1 (by decide) zx_E7 rfl 15 (by decide) wf_X1_72 rfl dX1_readUnit_92 ?_
    refine lv_iload_n hx hb dX1_readUnit_95 rfl (lv_at hl 3 rfl) ?_
    refine lv_iadd hx hb dX1_readUnit_96 ?_
    obtain ⟨S15, eS15, h⟩ := g_pin h
    refine zx_putv (C := RX1) (T := TX1) (N := 16) F hW hS wu_X1 tyX1_ok nmX1 (by decide) zx_E7 rfl 15 (by decide) wf_X1_72 rfl ((S12 7 15) + v1) rfl rfl (Nat.le_of_ble_eq_true rfl) rfl dX1_readUnit_97 (fun H locs hW hS => ?_)
    have hW : zx_W D a cs S15 H := by rw [eS15]; exact hW
    refine lv_iload_n hx hb dX1_readUnit_100 rfl (lv_at hl 0 rfl) ?_
    exact zx_ri F hr hW hS h dX1_readUnit_101
  · have h := g_t c9 h
    refine lv_iconst (v := 0) hx hb dX1_readUnit_50 (by decide) ?_
    exact zx_ri F hr hW hS h dX1_readUnit_51
set_option maxHeartbeats 4000000 in
set_option maxRecDepth 100000 in
theorem c_X1_readUnit (l : Launch) (D : va_G) (a : Nat → Nat) (cs : zx_C)   (S : St) (r9 : Int32) (S9 : St) (h : f_X1_readUnit  S = some (r9, S9)) : Met l yX1_readUnit (Cond.code yX1_readUnit cX1_readUnit 4 (some (.int)) :: zx_tb) ({ frames := 2, cells := 0, slots := 0, locals := 43 }) (zx_P D a cs [.ref (a 7)] S) (zx_Qi D a cs r9 S9) 0 0 (zx_A a) := by
  refine zx_met (own := RX1) (by decide) (Nat.le_of_ble_eq_true rfl) rfl ?_
  intro p e s m below meth c ls F hr hW hS hl
  have hl : lv_has ls 4 [(0, .ref (a 7))] := hl
  obtain ⟨⟨hx, hb, hml, hown, hts⟩, hlk, hK, hJ, hN⟩ := id F
  unfold f_X1_readUnit at h
  refine lv_aload_n hx hb dX1_readUnit_0 rfl (lv_at hl 0 rfl) ?_
  refine zx_get (C := RX1) (T := TX1) (N := 16) F hW wu_X1 (by decide) zx_E7 rfl 0 (by decide) wf_X1_12 rfl dX1_readUnit_1 ?_
  refine zx_get (C := RX0) (T := TX0) (N := 8) F hW wu_X0 (by decide) zx_E8 rfl 4 (by decide) wf_X1_180 rfl dX1_readUnit_4 ?_
  obtain ⟨x1, ex1, h⟩ := g_pin h
  refine zx_nm ex1 ?_
  refine lv_istore_n (lv' := [(1, .int x1), (0, .ref (a 7))]) hx hb dX1_readUnit_7 rfl hl (by decide) rfl (fun ls hl => ?_)
  refine lv_aload_n hx hb dX1_readUnit_8 rfl (lv_at hl 1 rfl) ?_
  refine lv_aload_n hx hb dX1_readUnit_9 rfl (lv_at hl 1 rfl) ?_
  refine zx_get (C := RX1) (T := TX1) (N := 16) F hW wu_X1 (by decide) zx_E7 rfl 15 (by decide) wf_X1_72 rfl dX1_readUnit_10 ?_
  refine lv_iload_n hx hb dX1_readUnit_13 rfl (lv_at hl 0 rfl) ?_
  refine lv_iadd hx hb dX1_readUnit_14 ?_
  refine lv_bipush (v := 8) hx hb dX1_readUnit_15 (by decide) ?_
  refine lv_aload_n hx hb dX1_readUnit_17 rfl (lv_at hl 1 rfl) ?_
  refine zx_get (C := RX1) (T := TX1) (N := 16) F hW wu_X1 (by decide) zx_E7 rfl 14 (by decide) wf_X1_69 rfl dX1_readUnit_18 ?_
  refine lv_imul hx hb dX1_readUnit_21 ?_
  refine lv_icmp_gt (tgt := 29) hx hb dX1_readUnit_22 (by decide) (fun c2 => ?_) (fun c2 => ?_)
  · have h := g_t c2 h
    refine lv_iconst (v := 0) hx hb dX1_readUnit_29 (by decide) ?_
    exact k_X1_readUnit_L30  F hr   x1 (0 : Int32) S h _ _ _ hW hS (lv_sub hl [1, 0] rfl)
  · have h := g_f c2 h
    refine lv_iconst (v := 1) hx hb dX1_readUnit_25 (by decide) ?_
    refine lv_goto (tgt := 30) hx hb dX1_readUnit_26 (by decide) ?_
    exact k_X1_readUnit_L30  F hr   x1 (1 : Int32) S h _ _ _ hW hS (lv_sub hl [1, 0] rfl)
theorem Y_X7_meet : zx_Y yX7_meet cX7_meet 2 none 1 := ⟨wc_X7_meet, wn_X7, by decide, by decide, by decide +kernel⟩
set_option maxHeartbeats 4000000 in
set_option maxRecDepth 100000 in
theorem c_X7_meet (l : Launch) (D : va_G) (a : Nat → Nat) (cs : zx_C) (k : Nat) (p0 : Int32) (hk : zx_tal k = true) (S : St) (r9 : Int32) (S9 : St) (h : f_X7_meet k p0 S = some (r9, S9)) : Met l yX7_meet (Cond.code yX7_meet cX7_meet 2 none :: zx_tb) ({ frames := 1, cells := 0, slots := 0, locals := 21 }) (zx_P D a cs [.ref (a k), .int p0] S) (zx_Qv D a cs S9) 0 0 (zx_A a) := by
  refine zx_met (own := RX7) (by decide) (Nat.le_of_ble_eq_true rfl) rfl ?_
  intro p e s m below meth c ls F hr hW hS hl
  have hl : lv_has ls 2 [(0, .ref (a k)), (1, .int p0)] := hl
  obtain ⟨⟨hx, hb, hml, hown, hts⟩, hlk, hK, hJ, hN⟩ := id F
  unfold f_X7_meet at h
  refine lv_aload_n hx hb dX7_meet_0 rfl (lv_at hl 0 rfl) ?_
  refine zx_get (C := RX7) (T := TX7) (N := 1) F hW wu_X7 (zx_tal_l hk).1 (zx_tal_E hk) rfl 0 (by decide) wf_X7_11 rfl dX7_meet_1 ?_
  refine lv_iconst (v := 0) hx hb dX7_meet_4 (by decide) ?_
  refine lv_aload_n hx hb dX7_meet_5 rfl (lv_at hl 0 rfl) ?_
  refine zx_get (C := RX7) (T := TX7) (N := 1) F hW wu_X7 (zx_tal_l hk).1 (zx_tal_E hk) rfl 0 (by decide) wf_X7_11 rfl dX7_meet_6 ?_
  refine lv_iconst (v := 0) hx hb dX7_meet_9 (by decide) ?_
  refine zx_iald (n := 6) F hW (zx_tal_l hk).2 (zx_tal_A hk) (by unfold vp_in; decide) dX7_meet_10 ?_
  refine zx_nm (z := (S (k + 1) 0)) rfl ?_
  refine lv_iload_n hx hb dX7_meet_11 rfl (lv_at hl 1 rfl) ?_
  refine zx_min F hl.1 wm_X7_21 ⟨Nat.le_of_ble_eq_true rfl, Nat.le_of_ble_eq_true rfl⟩ (Nat.le_of_ble_eq_true rfl) dX7_meet_12 ?_
  obtain ⟨S1, eS1, h⟩ := g_pin h
  refine zx_iast (n := 6) F hW hS (zx_tal_l hk).2 (fun f => (zx_tal_A hk)) (by unfold vp_in; decide) dX7_meet_15 (fun H locs hW hS => ?_)
  have hW : zx_W D a cs S1 H := by rw [eS1]; exact hW
  refine lv_aload_n hx hb dX7_meet_16 rfl (lv_at hl 0 rfl) ?_
  refine zx_get (C := RX7) (T := TX7) (N := 1) F hW wu_X7 (zx_tal_l hk).1 (zx_tal_E hk) rfl 0 (by decide) wf_X7_11 rfl dX7_meet_17 ?_
  refine lv_iconst (v := 1) hx hb dX7_meet_20 (by decide) ?_
  refine lv_aload_n hx hb dX7_meet_21 rfl (lv_at hl 0 rfl) ?_
  refine zx_get (C := RX7) (T := TX7) (N := 1) F hW wu_X7 (zx_tal_l hk).1 (zx_tal_E hk) rfl 0 (by decide) wf_X7_11 rfl dX7_meet_22 ?_
  refine lv_iconst (v := 1) hx hb dX7_meet_25 (by decide) ?_
  refine zx_iald (n := 6) F hW (zx_tal_l hk).2 (zx_tal_A hk) (by unfold vp_in; decide) dX7_meet_26 ?_
  refine zx_nm (z := (S1 (k + 1) 1)) rfl ?_
  refine lv_iload_n hx hb dX7_meet_27 rfl (lv_at hl 1 rfl) ?_
  refine zx_max F hl.1 wm_X7_27 ⟨Nat.le_of_ble_eq_true rfl, Nat.le_of_ble_eq_true rfl⟩ (Nat.le_of_ble_eq_true rfl) dX7_meet_28 ?_
  obtain ⟨S2, eS2, h⟩ := g_pin h
  refine zx_iast (n := 6) F hW hS (zx_tal_l hk).2 (fun f => (zx_tal_A hk)) (by unfold vp_in; decide) dX7_meet_31 (fun H locs hW hS => ?_)
  have hW : zx_W D a cs S2 H := by rw [eS2]; exact hW
  exact zx_rv F hr hW hS h dX7_meet_32
theorem Y_X7_addSymbol : zx_Y yX7_addSymbol cX7_addSymbol 3 none 2 := ⟨wc_X7_addSymbol, wn_X7, by decide, by decide, by decide +kernel⟩
set_option maxHeartbeats 4000000 in
set_option maxRecDepth 100000 in
theorem c_X7_addSymbol (l : Launch) (D : va_G) (a : Nat → Nat) (cs : zx_C) (k : Nat) (p0 : Int32) (p1 : Int32) (hk : zx_tal k = true) (S : St) (r9 : Int32) (S9 : St) (h : f_X7_addSymbol k p0 p1 S = some (r9, S9)) : Met l yX7_addSymbol (Cond.code yX7_addSymbol cX7_addSymbol 3 none :: zx_tb) ({ frames := 2, cells := 0, slots := 0, locals := 42 }) (zx_P D a cs [.ref (a k), .int p0, .int p1] S) (zx_Qv D a cs S9) 0 0 (zx_A a) := by
  refine zx_met (own := RX7) (by decide) (Nat.le_of_ble_eq_true rfl) rfl ?_
  intro p e s m below meth c ls F hr hW hS hl
  have hl : lv_has ls 3 [(0, .ref (a k)), (1, .int p0), (2, .int p1)] := hl
  obtain ⟨⟨hx, hb, hml, hown, hts⟩, hlk, hK, hJ, hN⟩ := id F
  unfold f_X7_addSymbol at h
  refine lv_aload_n hx hb dX7_addSymbol_0 rfl (lv_at hl 0 rfl) ?_
  refine lv_iload_n hx hb dX7_addSymbol_1 rfl (lv_at hl 1 rfl) ?_
  obtain ⟨r1, S2, h3, h⟩ := g_bd h
  refine zx_cv (zx_runV (q := (RX7, TX7, 1)) (As := [.int p0]) (rest := []) F hW (c_X7_meet l D a cs k p0 hk S r1 S2 h3) Y_X7_meet wi_X7_meet ws_X7_meet wm_X7_30 ⟨rfl, rfl, Nat.le_of_ble_eq_true rfl, Nat.le_of_ble_eq_true rfl, Nat.le_of_ble_eq_true rfl, Nat.le_of_ble_eq_true rfl⟩ (zx_tal_l hk).1 (zx_tal_E hk) rfl rfl hl.1 rfl (Nat.le_of_ble_eq_true rfl) dX7_addSymbol_2) hS (fun H locs hW hS => ?_)
  refine lv_aload_n hx hb dX7_addSymbol_5 rfl (lv_at hl 0 rfl) ?_
  refine zx_get (C := RX7) (T := TX7) (N := 1) F hW wu_X7 (zx_tal_l hk).1 (zx_tal_E hk) rfl 0 (by decide) wf_X7_11 rfl dX7_addSymbol_6 ?_
  refine lv_iconst (v := 2) hx hb dX7_addSymbol_9 (by decide) ?_
  refine lv_dup2_11 hx hb dX7_addSymbol_10 rfl rfl ?_
  refine zx_iald (n := 6) F hW (zx_tal_l hk).2 (zx_tal_A hk) (by unfold vp_in; decide) dX7_addSymbol_11 ?_
  refine zx_nm (z := (S2 (k + 1) 2)) rfl ?_
  refine lv_iconst (v := 1) hx hb dX7_addSymbol_12 (by decide) ?_
  refine lv_iadd hx hb dX7_addSymbol_13 ?_
  obtain ⟨S4, eS4, h⟩ := g_pin h
  refine zx_iast (n := 6) F hW hS (zx_tal_l hk).2 (fun f => (zx_tal_A hk)) (by unfold vp_in; decide) dX7_addSymbol_14 (fun H locs hW hS => ?_)
  have hW : zx_W D a cs S4 H := by rw [eS4]; exact hW
  refine lv_aload_n hx hb dX7_addSymbol_15 rfl (lv_at hl 0 rfl) ?_
  refine zx_get (C := RX7) (T := TX7) (N := 1) F hW wu_X7 (zx_tal_l hk).1 (zx_tal_E hk) rfl 0 (by decide) wf_X7_11 rfl dX7_addSymbol_16 ?_
  refine lv_iconst (v := 3) hx hb dX7_addSymbol_19 (by decide) ?_
  refine lv_dup2_11 hx hb dX7_addSymbol_20 rfl rfl ?_
  refine zx_iald (n := 6) F hW (zx_tal_l hk).2 (zx_tal_A hk) (by unfold vp_in; decide) dX7_addSymbol_21 ?_
  refine zx_nm (z := (S4 (k + 1) 3)) rfl ?_
  refine lv_iload_n hx hb dX7_addSymbol_22 rfl (lv_at hl 2 rfl) ?_
  refine lv_iadd hx hb dX7_addSymbol_23 ?_
  obtain ⟨S5, eS5, h⟩ := g_pin h
  refine zx_iast (n := 6) F hW hS (zx_tal_l hk).2 (fun f => (zx_tal_A hk)) (by unfold vp_in; decide) dX7_addSymbol_24 (fun H locs hW hS => ?_)
  have hW : zx_W D a cs S5 H := by rw [eS5]; exact hW
  refine lv_aload_n hx hb dX7_addSymbol_25 rfl (lv_at hl 0 rfl) ?_
  refine zx_get (C := RX7) (T := TX7) (N := 1) F hW wu_X7 (zx_tal_l hk).1 (zx_tal_E hk) rfl 0 (by decide) wf_X7_11 rfl dX7_addSymbol_26 ?_
  refine lv_iconst (v := 5) hx hb dX7_addSymbol_29 (by decide) ?_
  refine lv_aload_n hx hb dX7_addSymbol_30 rfl (lv_at hl 0 rfl) ?_
  refine zx_get (C := RX7) (T := TX7) (N := 1) F hW wu_X7 (zx_tal_l hk).1 (zx_tal_E hk) rfl 0 (by decide) wf_X7_11 rfl dX7_addSymbol_31 ?_
  refine lv_iconst (v := 5) hx hb dX7_addSymbol_34 (by decide) ?_
  refine zx_iald (n := 6) F hW (zx_tal_l hk).2 (zx_tal_A hk) (by unfold vp_in; decide) dX7_addSymbol_35 ?_
  refine zx_nm (z := (S5 (k + 1) 5)) rfl ?_
  refine lv_iload_n hx hb dX7_addSymbol_36 rfl (lv_at hl 2 rfl) ?_
  refine zx_max F hl.1 wm_X7_27 ⟨Nat.le_of_ble_eq_true rfl, Nat.le_of_ble_eq_true rfl⟩ (Nat.le_of_ble_eq_true rfl) dX7_addSymbol_37 ?_
  obtain ⟨S6, eS6, h⟩ := g_pin h
  refine zx_iast (n := 6) F hW hS (zx_tal_l hk).2 (fun f => (zx_tal_A hk)) (by unfold vp_in; decide) dX7_addSymbol_40 (fun H locs hW hS => ?_)
  have hW : zx_W D a cs S6 H := by rw [eS6]; exact hW
  exact zx_rv F hr hW hS h dX7_addSymbol_41
theorem Y_X1_readSymbol : zx_Y yX1_readSymbol cX1_readSymbol 6 none 1 := ⟨wc_X1_readSymbol, wn_X1, by decide, by decide, by decide +kernel⟩
set_option maxHeartbeats 4000000 in
set_option maxRecDepth 100000 in
theorem k_X1_readSymbol_L88 {l : Launch} {D : va_G} {a : Nat → Nat} {cs : zx_C} {p : Program} {e : Env} {s : State} {m : MethodId} {below : List Frame} {meth : Method} {c : Code} {fu : Nat} {p0 : Int32}  (F : zx_F D a cs p m c cX1_readSymbol 6 s ([.ref (a 7), .int p0] : List Value).toArray RX1 meth) (hr : meth.sig.returnType = none) {r9 : Int32} {S9 : St}    (v2 : Int32) (v3 : Int32) (v4 : Int32) (S : St) (h : f_X1_readSymbol_L88 fu p0   v2 v3 v4 S = some (r9, S9)) (H : Heap) (locs : List Loc) (ls : Array Slot) (hW : zx_W D a cs S H) (hS : va_S (zx_A a) s.heap H locs) (hl : lv_has ls 6 [(0, .ref (a 7)), (2, .int v2), (3, .int v3), (4, .int v4)]) : W p l e ({ frames := 4, cells := 0, slots := 0, locals := 84 }) s m ([.ref (a 7), .int p0] : List Value).toArray below meth c H locs 0 0 (MQ below (zx_Qv D a cs S9) ([.ref (a 7), .int p0] : List Value).toArray s 0 0 (zx_A a)) (F0 m 88 ls []) := by
  obtain ⟨⟨hx, hb, hml, hown, hts⟩, hlk, hK, hJ, hN⟩ := id F
  unfold f_X1_readSymbol_L88 at h
  refine lv_aload_n hx hb dX1_readSymbol_88 rfl (lv_at hl 0 rfl) ?_
  refine zx_get (C := RX1) (T := TX1) (N := 16) F hW wu_X1 (by decide) zx_E7 rfl 2 (by decide) wf_X1_25 rfl dX1_readSymbol_89 ?_
  refine lv_iload_n hx hb dX1_readSymbol_92 rfl (lv_at hl 1 rfl) ?_
  refine lv_iload_n hx hb dX1_readSymbol_93 rfl (lv_at hl 2 rfl) ?_
  obtain ⟨c16, h⟩ := g_no h
  obtain ⟨S15, eS15, h⟩ := g_pin h
  refine zx_iast (n := 2) F hW hS (by decide) (fun f => zx_E18) c16 dX1_readSymbol_94 (fun H locs hW hS => ?_)
  have hW : zx_W D a cs S15 H := by rw [eS15]; exact hW
  refine lv_aload_n hx hb dX1_readSymbol_95 rfl (lv_at hl 0 rfl) ?_
  refine zx_get (C := RX1) (T := TX1) (N := 16) F hW wu_X1 (by decide) zx_E7 rfl 1 (by decide) wf_X1_21 rfl dX1_readSymbol_96 ?_
  refine lv_iload_n hx hb dX1_readSymbol_99 rfl (lv_at hl 2 rfl) ?_
  refine lv_iload hx hb dX1_readSymbol_100 (lv_at hl 3 rfl) ?_
  obtain ⟨r17, S18, h19, h⟩ := g_bd h
  refine zx_cv (zx_runV (q := (RX7, TX7, 1)) (As := [.int v3, .int v4]) (rest := []) F hW (c_X7_addSymbol l D a cs 16 v3 v4 (by decide) S15 r17 S18 h19) Y_X7_addSymbol wi_X7_addSymbol ws_X7_addSymbol wm_X1_201 ⟨rfl, rfl, Nat.le_of_ble_eq_true rfl, Nat.le_of_ble_eq_true rfl, Nat.le_of_ble_eq_true rfl, Nat.le_of_ble_eq_true rfl⟩ (by decide) zx_E16 rfl rfl hl.1 rfl (Nat.le_of_ble_eq_true rfl) dX1_readSymbol_102) hS (fun H locs hW hS => ?_)
  exact zx_rv F hr hW hS h dX1_readSymbol_105
set_option maxHeartbeats 4000000 in
set_option maxRecDepth 100000 in
theorem k_X1_readSymbol_L46 {l : Launch} {D : va_G} {a : Nat → Nat} {cs : zx_C} {p : Program} {e : Env} {s : State} {m : MethodId} {below : List Frame} {meth : Method} {c : Code} {fu : Nat} {p0 : Int32}  (F : zx_F D a cs p m c cX1_readSymbol 6 s ([.ref (a 7), .int p0] : List Value).toArray RX1 meth) (hr : meth.sig.returnType = none) {r9 : Int32} {S9 : St}    : ∀ (n : Nat) (v2 : Int32) (v3 : Int32) (v4 : Int32) (v5 : Int32) (S : St), f_X1_readSymbol_L46 fu p0   n v2 v3 v4 v5 S = some (r9, S9) → ∀ (H : Heap) (locs : List Loc) (ls : Array Slot), zx_W D a cs S H → va_S (zx_A a) s.heap H locs → lv_has ls 6 [(0, .ref (a 7)), (2, .int v2), (3, .int v3), (4, .int v4), (5, .int v5)] → W p l e ({ frames := 4, cells := 0, slots := 0, locals := 84 }) s m ([.ref (a 7), .int p0] : List Value).toArray below meth c H locs 0 0 (MQ below (zx_Qv D a cs S9) ([.ref (a 7), .int p0] : List Value).toArray s 0 0 (zx_A a)) (F0 m 46 ls []) := by
  obtain ⟨⟨hx, hb, hml, hown, hts⟩, hlk, hK, hJ, hN⟩ := id F
  intro n
  induction n with
  | zero =>
    intro v2 v3 v4 v5 S h
    exact absurd h (fun q => by cases q)
  | succ n ih =>
    intro v2 v3 v4 v5 S h H locs ls hW hS hl
    rw [f_X1_readSymbol_L46_s] at h
    refine lv_iload hx hb dX1_readSymbol_46 (lv_at hl 4 rfl) ?_
    refine lv_bipush (v := 12) hx hb dX1_readSymbol_48 (by decide) ?_
    refine lv_icmp_ge (tgt := 88) hx hb dX1_readSymbol_50 (by decide) (fun c14 => ?_) (fun c14 => ?_)
    · have h := g_t c14 h
      exact k_X1_readSymbol_L88  F hr   v2 v3 v4 S h _ _ _ hW hS (lv_sub hl [0, 1, 2, 3] rfl)
    · have h := g_f c14 h
      refine lv_iload_n hx hb dX1_readSymbol_53 rfl (lv_at hl 2 rfl) ?_
      refine lv_aload_n hx hb dX1_readSymbol_54 rfl (lv_at hl 0 rfl) ?_
      refine zx_get (C := RX1) (T := TX1) (N := 16) F hW wu_X1 (by decide) zx_E7 rfl 0 (by decide) wf_X1_12 rfl dX1_readSymbol_55 ?_
      refine zx_get (C := RX0) (T := TX0) (N := 8) F hW wu_X0 (by decide) zx_E8 rfl 3 (by decide) wf_X1_195 rfl dX1_readSymbol_58 ?_
      refine lv_icmp_ge (tgt := 88) hx hb dX1_readSymbol_61 (by decide) (fun c20 => ?_) (fun c20 => ?_)
      · have h := g_t c20 h
        exact k_X1_readSymbol_L88  F hr   v2 v3 v4 S h _ _ _ hW hS (lv_sub hl [0, 1, 2, 3] rfl)
      · have h := g_f c20 h
        refine lv_iload_n hx hb dX1_readSymbol_64 rfl (lv_at hl 2 rfl) ?_
        refine lv_aload_n hx hb dX1_readSymbol_65 rfl (lv_at hl 0 rfl) ?_
        refine zx_get (C := RX1) (T := TX1) (N := 16) F hW wu_X1 (by decide) zx_E7 rfl 0 (by decide) wf_X1_12 rfl dX1_readSymbol_66 ?_
        refine zx_get (C := RX0) (T := TX0) (N := 8) F hW wu_X0 (by decide) zx_E8 rfl 4 (by decide) wf_X1_180 rfl dX1_readSymbol_69 ?_
        refine lv_ishl hx hb dX1_readSymbol_72 ?_
        refine lv_aload_n hx hb dX1_readSymbol_73 rfl (lv_at hl 0 rfl) ?_
        obtain ⟨r21, S22, h23, h⟩ := g_bd h
        refine zx_ci (zx_runV (q := (RX1, TX1, 16)) (As := []) (rest := [.int (v3 <<< ((S 8 4) &&& 31))]) F hW (c_X1_readUnit l D a cs   S r21 S22 h23) Y_X1_readUnit wi_X1_readUnit ws_X1_readUnit wm_X1_198 ⟨rfl, rfl, Nat.le_of_ble_eq_true rfl, Nat.le_of_ble_eq_true rfl, Nat.le_of_ble_eq_true rfl, Nat.le_of_ble_eq_true rfl⟩ (by decide) zx_E7 rfl rfl hl.1 rfl (Nat.le_of_ble_eq_true rfl) dX1_readSymbol_74) hS (fun H locs hW hS => ?_)
        refine lv_ior hx hb dX1_readSymbol_77 ?_
        obtain ⟨x24, ex24, h⟩ := g_pin h
        refine zx_nm ex24 ?_
        refine lv_istore_n (lv' := [(3, .int x24), (0, .ref (a 7)), (2, .int v2), (4, .int v4), (5, .int v5)]) hx hb dX1_readSymbol_78 rfl hl (by decide) rfl (fun ls hl => ?_)
        obtain ⟨x25, ex25, h⟩ := g_pin h
        refine lv_iinc (v := x25) (lv' := [(4, .int x25), (3, .int x24), (0, .ref (a 7)), (2, .int v2), (5, .int v5)]) hx hb dX1_readSymbol_79 hl (k := 3) rfl (by rw [ex25]; rfl) (by decide) rfl (fun ls hl => ?_)
        obtain ⟨x26, ex26, h⟩ := g_pin h
        refine lv_iinc (v := x26) (lv' := [(5, .int x26), (4, .int x25), (3, .int x24), (0, .ref (a 7)), (2, .int v2)]) hx hb dX1_readSymbol_82 hl (k := 4) rfl (by rw [ex26]; rfl) (by decide) rfl (fun ls hl => ?_)
        refine lv_goto (tgt := 46) hx hb dX1_readSymbol_85 (by decide) ?_
        exact ih v2 x24 x25 x26 S22 h _ _ _ hW hS (lv_sub hl [3, 4, 2, 1, 0] rfl)
set_option maxHeartbeats 4000000 in
set_option maxRecDepth 100000 in
theorem c_X1_readSymbol (l : Launch) (D : va_G) (a : Nat → Nat) (cs : zx_C) (fu : Nat) (p0 : Int32)  (S : St) (r9 : Int32) (S9 : St) (h : f_X1_readSymbol fu p0 S = some (r9, S9)) : Met l yX1_readSymbol (Cond.code yX1_readSymbol cX1_readSymbol 6 none :: zx_tb) ({ frames := 4, cells := 0, slots := 0, locals := 84 }) (zx_P D a cs [.ref (a 7), .int p0] S) (zx_Qv D a cs S9) 0 0 (zx_A a) := by
  refine zx_met (own := RX1) (by decide) (Nat.le_of_ble_eq_true rfl) rfl ?_
  intro p e s m below meth c ls F hr hW hS hl
  have hl : lv_has ls 6 [(0, .ref (a 7)), (1, .int p0)] := hl
  obtain ⟨⟨hx, hb, hml, hown, hts⟩, hlk, hK, hJ, hN⟩ := id F
  unfold f_X1_readSymbol at h
  refine lv_aload_n hx hb dX1_readSymbol_0 rfl (lv_at hl 0 rfl) ?_
  refine zx_get (C := RX1) (T := TX1) (N := 16) F hW wu_X1 (by decide) zx_E7 rfl 0 (by decide) wf_X1_12 rfl dX1_readSymbol_1 ?_
  refine lv_iload_n hx hb dX1_readSymbol_4 rfl (lv_at hl 1 rfl) ?_
  obtain ⟨r1, S2, h3, h⟩ := g_bd h
  refine zx_ci (zx_runV (q := (RX0, TX0, 8)) (As := [.int p0]) (rest := []) F hW (c_X0_turnOf l D a cs p0  S r1 S2 h3) Y_X0_turnOf wi_X0_turnOf ws_X0_turnOf wm_X1_186 ⟨rfl, rfl, Nat.le_of_ble_eq_true rfl, Nat.le_of_ble_eq_true rfl, Nat.le_of_ble_eq_true rfl, Nat.le_of_ble_eq_true rfl⟩ (by decide) zx_E8 rfl rfl hl.1 rfl (Nat.le_of_ble_eq_true rfl) dX1_readSymbol_5) hS (fun H locs hW hS => ?_)
  refine lv_istore_n (lv' := [(2, .int r1), (0, .ref (a 7)), (1, .int p0)]) hx hb dX1_readSymbol_8 rfl hl (by decide) rfl (fun ls hl => ?_)
  refine lv_aload_n hx hb dX1_readSymbol_9 rfl (lv_at hl 1 rfl) ?_
  refine zx_get (C := RX1) (T := TX1) (N := 16) F hW wu_X1 (by decide) zx_E7 rfl 2 (by decide) wf_X1_25 rfl dX1_readSymbol_10 ?_
  refine lv_iload_n hx hb dX1_readSymbol_13 rfl (lv_at hl 0 rfl) ?_
  obtain ⟨c4, h⟩ := g_no h
  refine zx_iald (n := 2) F hW (by decide) zx_E18 c4 dX1_readSymbol_14 ?_
  obtain ⟨x5, ex5, h⟩ := g_pin h
  refine zx_nm ex5 ?_
  refine lv_istore_n (lv' := [(3, .int x5), (2, .int r1), (0, .ref (a 7)), (1, .int p0)]) hx hb dX1_readSymbol_15 rfl hl (by decide) rfl (fun ls hl => ?_)
  refine lv_aload_n hx hb dX1_readSymbol_16 rfl (lv_at hl 2 rfl) ?_
  refine zx_get (C := RX1) (T := TX1) (N := 16) F hW wu_X1 (by decide) zx_E7 rfl 3 (by decide) wf_X1_29 rfl dX1_readSymbol_17 ?_
  refine lv_iload_n hx hb dX1_readSymbol_20 rfl (lv_at hl 3 rfl) ?_
  refine lv_aload_n hx hb dX1_readSymbol_21 rfl (lv_at hl 2 rfl) ?_
  refine zx_get (C := RX1) (T := TX1) (N := 16) F hW wu_X1 (by decide) zx_E7 rfl 0 (by decide) wf_X1_12 rfl dX1_readSymbol_22 ?_
  refine lv_iload_n hx hb dX1_readSymbol_25 rfl (lv_at hl 0 rfl) ?_
  obtain ⟨r6, S7, h8, h⟩ := g_bd h
  refine zx_ci (zx_runV (q := (RX0, TX0, 8)) (As := [.int x5]) (rest := [.int p0, .ref (a 19)]) F hW (c_X0_symbolOf l D a cs x5  S2 r6 S7 h8) Y_X0_symbolOf wi_X0_symbolOf ws_X0_symbolOf wm_X1_189 ⟨rfl, rfl, Nat.le_of_ble_eq_true rfl, Nat.le_of_ble_eq_true rfl, Nat.le_of_ble_eq_true rfl, Nat.le_of_ble_eq_true rfl⟩ (by decide) zx_E8 rfl rfl hl.1 rfl (Nat.le_of_ble_eq_true rfl) dX1_readSymbol_26) hS (fun H locs hW hS => ?_)
  refine lv_i2b hx hb dX1_readSymbol_29 rfl ?_
  obtain ⟨c10, h⟩ := g_no h
  obtain ⟨S9, eS9, h⟩ := g_pin h
  refine zx_bast (n := 1400) F hW hS (by decide) (fun f => zx_E19) c10 dX1_readSymbol_30 (fun H locs hW hS => ?_)
  have hW : zx_W D a cs S9 H := by rw [eS9]; exact hW
  refine lv_aload_n hx hb dX1_readSymbol_31 rfl (lv_at hl 2 rfl) ?_
  refine zx_get (C := RX1) (T := TX1) (N := 16) F hW wu_X1 (by decide) zx_E7 rfl 0 (by decide) wf_X1_12 rfl dX1_readSymbol_32 ?_
  refine lv_iload_n hx hb dX1_readSymbol_35 rfl (lv_at hl 0 rfl) ?_
  obtain ⟨r11, S12, h13, h⟩ := g_bd h
  refine zx_ci (zx_runV (q := (RX0, TX0, 8)) (As := [.int x5]) (rest := []) F hW (c_X0_behindSymbol l D a cs x5  S9 r11 S12 h13) Y_X0_behindSymbol wi_X0_behindSymbol ws_X0_behindSymbol wm_X1_192 ⟨rfl, rfl, Nat.le_of_ble_eq_true rfl, Nat.le_of_ble_eq_true rfl, Nat.le_of_ble_eq_true rfl, Nat.le_of_ble_eq_true rfl⟩ (by decide) zx_E8 rfl rfl hl.1 rfl (Nat.le_of_ble_eq_true rfl) dX1_readSymbol_36) hS (fun H locs hW hS => ?_)
  refine lv_istore_n (lv' := [(3, .int r11), (2, .int r1), (0, .ref (a 7)), (1, .int p0)]) hx hb dX1_readSymbol_39 rfl hl (by decide) rfl (fun ls hl => ?_)
  refine lv_iconst (v := 0) hx hb dX1_readSymbol_40 (by decide) ?_
  refine lv_istore (lv' := [(4, .int (0 : Int32)), (3, .int r11), (2, .int r1), (0, .ref (a 7)), (1, .int p0)]) hx hb dX1_readSymbol_41 hl (by decide) rfl (fun ls hl => ?_)
  refine lv_iconst (v := 0) hx hb dX1_readSymbol_43 (by decide) ?_
  refine lv_istore (lv' := [(5, .int (0 : Int32)), (4, .int (0 : Int32)), (3, .int r11), (2, .int r1), (0, .ref (a 7)), (1, .int p0)]) hx hb dX1_readSymbol_44 hl (by decide) rfl (fun ls hl => ?_)
  exact k_X1_readSymbol_L46  F hr   fu r1 r11 (0 : Int32) (0 : Int32) S12 h _ _ _ hW hS (lv_sub hl [4, 3, 2, 1, 0] rfl)
theorem Y_X7_begin : zx_Y yX7_begin cX7_begin 2 none 1 := ⟨wc_X7_begin, wn_X7, by decide, by decide, by decide +kernel⟩
set_option maxHeartbeats 4000000 in
set_option maxRecDepth 100000 in
theorem c_X7_begin (l : Launch) (D : va_G) (a : Nat → Nat) (cs : zx_C) (fu : Nat) (k : Nat) (p0 : Int32) (hk : zx_tal k = true) (S : St) (r9 : Int32) (S9 : St) (h : f_X7_begin fu k p0 S = some (r9, S9)) : Met l yX7_begin (Cond.code yX7_begin cX7_begin 2 none :: zx_tb) ({ frames := 1, cells := 0, slots := 0, locals := 23 }) (zx_P D a cs [.ref (a k), .int p0] S) (zx_Qv D a cs S9) 0 0 (zx_A a) := by
  refine zx_met (own := RX7) (by decide) (Nat.le_of_ble_eq_true rfl) rfl ?_
  intro p e s m below meth c ls F hr hW hS hl
  have hl : lv_has ls 2 [(0, .ref (a k)), (1, .int p0)] := hl
  obtain ⟨⟨hx, hb, hml, hown, hts⟩, hlk, hK, hJ, hN⟩ := id F
  unfold f_X7_begin at h
  refine lv_aload_n hx hb dX7_begin_0 rfl (lv_at hl 0 rfl) ?_
  refine zx_get (C := RX7) (T := TX7) (N := 1) F hW wu_X7 (zx_tal_l hk).1 (zx_tal_E hk) rfl 0 (by decide) wf_X7_11 rfl dX7_begin_1 ?_
  refine lv_iconst (v := 0) hx hb dX7_begin_4 (by decide) ?_
  obtain ⟨r1, S2, h3, h⟩ := g_bd h
  refine zx_cv (zx_runS (As := [.ref (a (k + 1)), .int (0 : Int32)]) (rest := []) F hW (c_J7_fill_53178 l D a cs fu (k + 1) (0 : Int32) (zx_tal_ia hk).1 S r1 S2 h3) Y_J7_fill_53178 wt_J7_fill_53178 wm_X7_15 ⟨rfl, rfl, Nat.le_of_ble_eq_true rfl, Nat.le_of_ble_eq_true rfl, Nat.le_of_ble_eq_true rfl, Nat.le_of_ble_eq_true rfl⟩ rfl hl.1 rfl (Nat.le_of_ble_eq_true rfl) dX7_begin_5) hS (fun H locs hW hS => ?_)
  refine lv_aload_n hx hb dX7_begin_8 rfl (lv_at hl 0 rfl) ?_
  refine zx_get (C := RX7) (T := TX7) (N := 1) F hW wu_X7 (zx_tal_l hk).1 (zx_tal_E hk) rfl 0 (by decide) wf_X7_11 rfl dX7_begin_9 ?_
  refine lv_iconst (v := 0) hx hb dX7_begin_12 (by decide) ?_
  refine lv_iload_n hx hb dX7_begin_13 rfl (lv_at hl 1 rfl) ?_
  obtain ⟨S4, eS4, h⟩ := g_pin h
  refine zx_iast (n := 6) F hW hS (zx_tal_l hk).2 (fun f => (zx_tal_A hk)) (by unfold vp_in; decide) dX7_begin_14 (fun H locs hW hS => ?_)
  have hW : zx_W D a cs S4 H := by rw [eS4]; exact hW
  refine lv_aload_n hx hb dX7_begin_15 rfl (lv_at hl 0 rfl) ?_
  refine zx_get (C := RX7) (T := TX7) (N := 1) F hW wu_X7 (zx_tal_l hk).1 (zx_tal_E hk) rfl 0 (by decide) wf_X7_11 rfl dX7_begin_16 ?_
  refine lv_iconst (v := 1) hx hb dX7_begin_19 (by decide) ?_
  refine lv_iload_n hx hb dX7_begin_20 rfl (lv_at hl 1 rfl) ?_
  obtain ⟨S5, eS5, h⟩ := g_pin h
  refine zx_iast (n := 6) F hW hS (zx_tal_l hk).2 (fun f => (zx_tal_A hk)) (by unfold vp_in; decide) dX7_begin_21 (fun H locs hW hS => ?_)
  have hW : zx_W D a cs S5 H := by rw [eS5]; exact hW
  exact zx_rv F hr hW hS h dX7_begin_22
theorem Y_X7_setBytes : zx_Y yX7_setBytes cX7_setBytes 2 none 1 := ⟨wc_X7_setBytes, wn_X7, by decide, by decide, by decide +kernel⟩
set_option maxHeartbeats 4000000 in
set_option maxRecDepth 100000 in
theorem c_X7_setBytes (l : Launch) (D : va_G) (a : Nat → Nat) (cs : zx_C) (k : Nat) (p0 : Int32) (hk : zx_tal k = true) (S : St) (r9 : Int32) (S9 : St) (h : f_X7_setBytes k p0 S = some (r9, S9)) : Met l yX7_setBytes (Cond.code yX7_setBytes cX7_setBytes 2 none :: zx_tb) ({ frames := 0, cells := 0, slots := 0, locals := 0 }) (zx_P D a cs [.ref (a k), .int p0] S) (zx_Qv D a cs S9) 0 0 (zx_A a) := by
  refine zx_met (own := RX7) (by decide) (Nat.le_of_ble_eq_true rfl) rfl ?_
  intro p e s m below meth c ls F hr hW hS hl
  have hl : lv_has ls 2 [(0, .ref (a k)), (1, .int p0)] := hl
  obtain ⟨⟨hx, hb, hml, hown, hts⟩, hlk, hK, hJ, hN⟩ := id F
  unfold f_X7_setBytes at h
  refine lv_aload_n hx hb dX7_setBytes_0 rfl (lv_at hl 0 rfl) ?_
  refine zx_get (C := RX7) (T := TX7) (N := 1) F hW wu_X7 (zx_tal_l hk).1 (zx_tal_E hk) rfl 0 (by decide) wf_X7_11 rfl dX7_setBytes_1 ?_
  refine lv_iconst (v := 4) hx hb dX7_setBytes_4 (by decide) ?_
  refine lv_aload_n hx hb dX7_setBytes_5 rfl (lv_at hl 0 rfl) ?_
  refine zx_get (C := RX7) (T := TX7) (N := 1) F hW wu_X7 (zx_tal_l hk).1 (zx_tal_E hk) rfl 0 (by decide) wf_X7_11 rfl dX7_setBytes_6 ?_
  refine lv_iconst (v := 3) hx hb dX7_setBytes_9 (by decide) ?_
  refine zx_iald (n := 6) F hW (zx_tal_l hk).2 (zx_tal_A hk) (by unfold vp_in; decide) dX7_setBytes_10 ?_
  refine zx_nm (z := (S (k + 1) 3)) rfl ?_
  refine lv_iload_n hx hb dX7_setBytes_11 rfl (lv_at hl 1 rfl) ?_
  refine lv_imul hx hb dX7_setBytes_12 ?_
  refine lv_bipush (v := 7) hx hb dX7_setBytes_13 (by decide) ?_
  refine lv_iadd hx hb dX7_setBytes_15 ?_
  refine lv_bipush (v := 8) hx hb dX7_setBytes_16 (by decide) ?_
  refine lv_idiv hx hb dX7_setBytes_18 (by decide) ?_
  obtain ⟨S1, eS1, h⟩ := g_pin h
  refine zx_iast (n := 6) F hW hS (zx_tal_l hk).2 (fun f => (zx_tal_A hk)) (by unfold vp_in; decide) dX7_setBytes_19 (fun H locs hW hS => ?_)
  have hW : zx_W D a cs S1 H := by rw [eS1]; exact hW
  exact zx_rv F hr hW hS h dX7_setBytes_20
theorem Y_X1_readMessage : zx_Y yX1_readMessage cX1_readMessage 2 none 0 := ⟨wc_X1_readMessage, wn_X1, by decide, by decide, by decide +kernel⟩
set_option maxHeartbeats 4000000 in
set_option maxRecDepth 100000 in
theorem k_X1_readMessage_L77 {l : Launch} {D : va_G} {a : Nat → Nat} {cs : zx_C} {p : Program} {e : Env} {s : State} {m : MethodId} {below : List Frame} {meth : Method} {c : Code} {fu : Nat}   (F : zx_F D a cs p m c cX1_readMessage 2 s ([.ref (a 7)] : List Value).toArray RX1 meth) (hr : meth.sig.returnType = none) {r9 : Int32} {S9 : St}     (S : St) (h : f_X1_readMessage_L77 fu     S = some (r9, S9)) (H : Heap) (locs : List Loc) (ls : Array Slot) (hW : zx_W D a cs S H) (hS : va_S (zx_A a) s.heap H locs) (hl : lv_has ls 2 [(0, .ref (a 7))]) : W p l e ({ frames := 5, cells := 0, slots := 0, locals := 109 }) s m ([.ref (a 7)] : List Value).toArray below meth c H locs 0 0 (MQ below (zx_Qv D a cs S9) ([.ref (a 7)] : List Value).toArray s 0 0 (zx_A a)) (F0 m 77 ls []) := by
  obtain ⟨⟨hx, hb, hml, hown, hts⟩, hlk, hK, hJ, hN⟩ := id F
  unfold f_X1_readMessage_L77 at h
  refine lv_aload_n hx hb dX1_readMessage_77 rfl (lv_at hl 0 rfl) ?_
  refine zx_get (C := RX1) (T := TX1) (N := 16) F hW wu_X1 (by decide) zx_E7 rfl 1 (by decide) wf_X1_21 rfl dX1_readMessage_78 ?_
  refine lv_aload_n hx hb dX1_readMessage_81 rfl (lv_at hl 0 rfl) ?_
  refine zx_get (C := RX1) (T := TX1) (N := 16) F hW wu_X1 (by decide) zx_E7 rfl 0 (by decide) wf_X1_12 rfl dX1_readMessage_82 ?_
  refine zx_get (C := RX0) (T := TX0) (N := 8) F hW wu_X0 (by decide) zx_E8 rfl 4 (by decide) wf_X1_180 rfl dX1_readMessage_85 ?_
  obtain ⟨r16, S17, h18, h⟩ := g_bd h
  refine zx_cv (zx_runV (q := (RX7, TX7, 1)) (As := [.int (S 8 4)]) (rest := []) F hW (c_X7_setBytes l D a cs 16 (S 8 4) (by decide) S r16 S17 h18) Y_X7_setBytes wi_X7_setBytes ws_X7_setBytes wm_X1_183 ⟨rfl, rfl, Nat.le_of_ble_eq_true rfl, Nat.le_of_ble_eq_true rfl, Nat.le_of_ble_eq_true rfl, Nat.le_of_ble_eq_true rfl⟩ (by decide) zx_E16 rfl rfl hl.1 rfl (Nat.le_of_ble_eq_true rfl) dX1_readMessage_88) hS (fun H locs hW hS => ?_)
  exact zx_rv F hr hW hS h dX1_readMessage_91
set_option maxHeartbeats 4000000 in
set_option maxRecDepth 100000 in
theorem k_X1_readMessage_L44 {l : Launch} {D : va_G} {a : Nat → Nat} {cs : zx_C} {p : Program} {e : Env} {s : State} {m : MethodId} {below : List Frame} {meth : Method} {c : Code} {fu : Nat}   (F : zx_F D a cs p m c cX1_readMessage 2 s ([.ref (a 7)] : List Value).toArray RX1 meth) (hr : meth.sig.returnType = none) {r9 : Int32} {S9 : St}    : ∀ (n : Nat) (v1 : Int32) (S : St), f_X1_readMessage_L44 fu    n v1 S = some (r9, S9) → ∀ (H : Heap) (locs : List Loc) (ls : Array Slot), zx_W D a cs S H → va_S (zx_A a) s.heap H locs → lv_has ls 2 [(0, .ref (a 7)), (1, .int v1)] → W p l e ({ frames := 5, cells := 0, slots := 0, locals := 109 }) s m ([.ref (a 7)] : List Value).toArray below meth c H locs 0 0 (MQ below (zx_Qv D a cs S9) ([.ref (a 7)] : List Value).toArray s 0 0 (zx_A a)) (F0 m 44 ls []) := by
  obtain ⟨⟨hx, hb, hml, hown, hts⟩, hlk, hK, hJ, hN⟩ := id F
  intro n
  induction n with
  | zero =>
    intro v1 S h
    exact absurd h (fun q => by cases q)
  | succ n ih =>
    intro v1 S h H locs ls hW hS hl
    rw [f_X1_readMessage_L44_s] at h
    refine lv_iload_n hx hb dX1_readMessage_44 rfl (lv_at hl 1 rfl) ?_
    refine lv_aload_n hx hb dX1_readMessage_45 rfl (lv_at hl 0 rfl) ?_
    refine zx_get (C := RX1) (T := TX1) (N := 16) F hW wu_X1 (by decide) zx_E7 rfl 11 (by decide) wf_X1_60 rfl dX1_readMessage_46 ?_
    refine lv_icmp_ge (tgt := 77) hx hb dX1_readMessage_49 (by decide) (fun c15 => ?_) (fun c15 => ?_)
    · have h := g_t c15 h
      exact k_X1_readMessage_L77  F hr    S h _ _ _ hW hS (lv_sub hl [0] rfl)
    · have h := g_f c15 h
      refine lv_iload_n hx hb dX1_readMessage_52 rfl (lv_at hl 1 rfl) ?_
      refine lv_sipush (v := 1400) hx hb dX1_readMessage_53 (by decide) ?_
      refine lv_icmp_ge (tgt := 77) hx hb dX1_readMessage_56 (by decide) (fun c19 => ?_) (fun c19 => ?_)
      · have h := g_t c19 h
        exact k_X1_readMessage_L77  F hr    S h _ _ _ hW hS (lv_sub hl [0] rfl)
      · have h := g_f c19 h
        refine lv_aload_n hx hb dX1_readMessage_59 rfl (lv_at hl 0 rfl) ?_
        obtain ⟨r20, S21, h22, h⟩ := g_bd h
        refine zx_ci (zx_runV (q := (RX1, TX1, 16)) (As := []) (rest := []) F hW (c_X1_isWhole l D a cs   S r20 S21 h22) Y_X1_isWhole wi_X1_isWhole ws_X1_isWhole wm_X1_84 ⟨rfl, rfl, Nat.le_of_ble_eq_true rfl, Nat.le_of_ble_eq_true rfl, Nat.le_of_ble_eq_true rfl, Nat.le_of_ble_eq_true rfl⟩ (by decide) zx_E7 rfl rfl hl.1 rfl (Nat.le_of_ble_eq_true rfl) dX1_readMessage_60) hS (fun H locs hW hS => ?_)
        refine lv_if_eq (tgt := 77) hx hb dX1_readMessage_63 (by decide) (fun c23 => ?_) (fun c23 => ?_)
        · have h := g_t c23 h
          exact k_X1_readMessage_L77  F hr    S21 h _ _ _ hW hS (lv_sub hl [0] rfl)
        · have h := g_f c23 h
          refine lv_aload_n hx hb dX1_readMessage_66 rfl (lv_at hl 0 rfl) ?_
          refine lv_iload_n hx hb dX1_readMessage_67 rfl (lv_at hl 1 rfl) ?_
          obtain ⟨r24, S25, h26, h⟩ := g_bd h
          refine zx_cv (zx_runV (q := (RX1, TX1, 16)) (As := [.int v1]) (rest := []) F hW (c_X1_readSymbol l D a cs fu v1  S21 r24 S25 h26) Y_X1_readSymbol wi_X1_readSymbol ws_X1_readSymbol wm_X1_177 ⟨rfl, rfl, Nat.le_of_ble_eq_true rfl, Nat.le_of_ble_eq_true rfl, Nat.le_of_ble_eq_true rfl, Nat.le_of_ble_eq_true rfl⟩ (by decide) zx_E7 rfl rfl hl.1 rfl (Nat.le_of_ble_eq_true rfl) dX1_readMessage_68) hS (fun H locs hW hS => ?_)
          obtain ⟨x27, ex27, h⟩ := g_pin h
          refine lv_iinc (v := x27) (lv' := [(1, .int x27), (0, .ref (a 7))]) hx hb dX1_readMessage_71 hl (k := 1) rfl (by rw [ex27]; rfl) (by decide) rfl (fun ls hl => ?_)
          refine lv_goto (tgt := 44) hx hb dX1_readMessage_74 (by decide) ?_
          exact ih x27 S25 h _ _ _ hW hS (lv_sub hl [1, 0] rfl)
set_option maxHeartbeats 4000000 in
set_option maxRecDepth 100000 in
theorem c_X1_readMessage (l : Launch) (D : va_G) (a : Nat → Nat) (cs : zx_C) (fu : Nat)   (S : St) (r9 : Int32) (S9 : St) (h : f_X1_readMessage fu  S = some (r9, S9)) : Met l yX1_readMessage (Cond.code yX1_readMessage cX1_readMessage 2 none :: zx_tb) ({ frames := 5, cells := 0, slots := 0, locals := 109 }) (zx_P D a cs [.ref (a 7)] S) (zx_Qv D a cs S9) 0 0 (zx_A a) := by
  refine zx_met (own := RX1) (by decide) (Nat.le_of_ble_eq_true rfl) rfl ?_
  intro p e s m below meth c ls F hr hW hS hl
  have hl : lv_has ls 2 [(0, .ref (a 7))] := hl
  obtain ⟨⟨hx, hb, hml, hown, hts⟩, hlk, hK, hJ, hN⟩ := id F
  unfold f_X1_readMessage at h
  refine lv_aload_n hx hb dX1_readMessage_0 rfl (lv_at hl 0 rfl) ?_
  obtain ⟨r1, S2, h3, h⟩ := g_bd h
  refine zx_ci (zx_runV (q := (RX1, TX1, 16)) (As := []) (rest := []) F hW (c_X1_isWhole l D a cs   S r1 S2 h3) Y_X1_isWhole wi_X1_isWhole ws_X1_isWhole wm_X1_84 ⟨rfl, rfl, Nat.le_of_ble_eq_true rfl, Nat.le_of_ble_eq_true rfl, Nat.le_of_ble_eq_true rfl, Nat.le_of_ble_eq_true rfl⟩ (by decide) zx_E7 rfl rfl hl.1 rfl (Nat.le_of_ble_eq_true rfl) dX1_readMessage_1) hS (fun H locs hW hS => ?_)
  refine lv_if_ne (tgt := 8) hx hb dX1_readMessage_4 (by decide) (fun c4 => ?_) (fun c4 => ?_)
  · have h := g_f c4 h
    refine lv_aload_n hx hb dX1_readMessage_8 rfl (lv_at hl 0 rfl) ?_
    refine zx_get (C := RX1) (T := TX1) (N := 16) F hW wu_X1 (by decide) zx_E7 rfl 1 (by decide) wf_X1_21 rfl dX1_readMessage_9 ?_
    refine lv_aload_n hx hb dX1_readMessage_12 rfl (lv_at hl 0 rfl) ?_
    refine zx_get (C := RX1) (T := TX1) (N := 16) F hW wu_X1 (by decide) zx_E7 rfl 2 (by decide) wf_X1_25 rfl dX1_readMessage_13 ?_
    refine lv_iconst (v := 0) hx hb dX1_readMessage_16 (by decide) ?_
    refine zx_iald (n := 2) F hW (by decide) zx_E18 (by unfold vp_in; decide) dX1_readMessage_17 ?_
    refine zx_nm (z := (S2 18 0)) rfl ?_
    obtain ⟨r5, S6, h7, h⟩ := g_bd h
    refine zx_cv (zx_runV (q := (RX7, TX7, 1)) (As := [.int (S2 18 0)]) (rest := []) F hW (c_X7_begin l D a cs fu 16 (S2 18 0) (by decide) S2 r5 S6 h7) Y_X7_begin wi_X7_begin ws_X7_begin wm_X1_171 ⟨rfl, rfl, Nat.le_of_ble_eq_true rfl, Nat.le_of_ble_eq_true rfl, Nat.le_of_ble_eq_true rfl, Nat.le_of_ble_eq_true rfl⟩ (by decide) zx_E16 rfl rfl hl.1 rfl (Nat.le_of_ble_eq_true rfl) dX1_readMessage_18) hS (fun H locs hW hS => ?_)
    refine lv_aload_n hx hb dX1_readMessage_21 rfl (lv_at hl 0 rfl) ?_
    refine zx_get (C := RX1) (T := TX1) (N := 16) F hW wu_X1 (by decide) zx_E7 rfl 1 (by decide) wf_X1_21 rfl dX1_readMessage_22 ?_
    refine lv_aload_n hx hb dX1_readMessage_25 rfl (lv_at hl 0 rfl) ?_
    refine zx_get (C := RX1) (T := TX1) (N := 16) F hW wu_X1 (by decide) zx_E7 rfl 2 (by decide) wf_X1_25 rfl dX1_readMessage_26 ?_
    refine lv_aload_n hx hb dX1_readMessage_29 rfl (lv_at hl 0 rfl) ?_
    refine zx_get (C := RX1) (T := TX1) (N := 16) F hW wu_X1 (by decide) zx_E7 rfl 0 (by decide) wf_X1_12 rfl dX1_readMessage_30 ?_
    obtain ⟨r8, S9, h10, h⟩ := g_bd h
    refine zx_ci (zx_runV (q := (RX0, TX0, 8)) (As := []) (rest := [.ref (a 18), .ref (a 16)]) F hW (c_X0_stateCount l D a cs   S6 r8 S9 h10) Y_X0_stateCount wi_X0_stateCount ws_X0_stateCount wm_X1_159 ⟨rfl, rfl, Nat.le_of_ble_eq_true rfl, Nat.le_of_ble_eq_true rfl, Nat.le_of_ble_eq_true rfl, Nat.le_of_ble_eq_true rfl⟩ (by decide) zx_E8 rfl rfl hl.1 rfl (Nat.le_of_ble_eq_true rfl) dX1_readMessage_33) hS (fun H locs hW hS => ?_)
    refine lv_iconst (v := 1) hx hb dX1_readMessage_36 (by decide) ?_
    refine lv_isub hx hb dX1_readMessage_37 ?_
    obtain ⟨c11, h⟩ := g_no h
    refine zx_iald (n := 2) F hW (by decide) zx_E18 c11 dX1_readMessage_38 ?_
    obtain ⟨r12, S13, h14, h⟩ := g_bd h
    refine zx_cv (zx_runV (q := (RX7, TX7, 1)) (As := [.int (S9 18 (r8 - (1 : Int32)).toNatClampNeg)]) (rest := []) F hW (c_X7_meet l D a cs 16 (S9 18 (r8 - (1 : Int32)).toNatClampNeg) (by decide) S9 r12 S13 h14) Y_X7_meet wi_X7_meet ws_X7_meet wm_X1_174 ⟨rfl, rfl, Nat.le_of_ble_eq_true rfl, Nat.le_of_ble_eq_true rfl, Nat.le_of_ble_eq_true rfl, Nat.le_of_ble_eq_true rfl⟩ (by decide) zx_E16 rfl rfl hl.1 rfl (Nat.le_of_ble_eq_true rfl) dX1_readMessage_39) hS (fun H locs hW hS => ?_)
    refine lv_iconst (v := 0) hx hb dX1_readMessage_42 (by decide) ?_
    refine lv_istore_n (lv' := [(1, .int (0 : Int32)), (0, .ref (a 7))]) hx hb dX1_readMessage_43 rfl hl (by decide) rfl (fun ls hl => ?_)
    exact k_X1_readMessage_L44  F hr   fu (0 : Int32) S13 h _ _ _ hW hS (lv_sub hl [1, 0] rfl)
  · have h := g_t c4 h
    exact zx_rv F hr hW hS h dX1_readMessage_7
theorem Y_X6_change : zx_Y yX6_change cX6_change 3 none 2 := ⟨wc_X6_change, wn_X6, by decide, by decide, by decide +kernel⟩
set_option maxHeartbeats 4000000 in
set_option maxRecDepth 100000 in
theorem c_X6_change (l : Launch) (D : va_G) (a : Nat → Nat) (cs : zx_C) (k : Nat) (p0 : Int32) (p1 : Int32) (hk : zx_tab k = true) (S : St) (r9 : Int32) (S9 : St) (h : f_X6_change k p0 p1 S = some (r9, S9)) : Met l yX6_change (Cond.code yX6_change cX6_change 3 none :: zx_tb) ({ frames := 1, cells := 0, slots := 0, locals := 20 }) (zx_P D a cs [.ref (a k), .int p0, .int p1] S) (zx_Qv D a cs S9) 0 0 (zx_A a) := by
  refine zx_met (own := RX6) (by decide) (Nat.le_of_ble_eq_true rfl) rfl ?_
  intro p e s m below meth c ls F hr hW hS hl
  have hl : lv_has ls 3 [(0, .ref (a k)), (1, .int p0), (2, .int p1)] := hl
  obtain ⟨⟨hx, hb, hml, hown, hts⟩, hlk, hK, hJ, hN⟩ := id F
  unfold f_X6_change at h
  refine lv_iload_n hx hb dX6_change_0 rfl (lv_at hl 1 rfl) ?_
  obtain ⟨r1, S2, h3, h⟩ := g_bd h
  refine zx_ci (zx_runSN (As := [.int p0]) (rest := []) F hW (c_X8_isSymbol l D a cs p0  S r1 S2 h3) Y_X8_isSymbol wt_X8_isSymbol wN_X6_19 ⟨rfl, rfl, Nat.le_of_ble_eq_true rfl, Nat.le_of_ble_eq_true rfl, Nat.le_of_ble_eq_true rfl, Nat.le_of_ble_eq_true rfl⟩ rfl hl.1 rfl (Nat.le_of_ble_eq_true rfl) dX6_change_1) hS (fun H locs hW hS => ?_)
  refine lv_if_eq (tgt := 17) hx hb dX6_change_4 (by decide) (fun c4 => ?_) (fun c4 => ?_)
  · have h := g_t c4 h
    exact zx_rv F hr hW hS h dX6_change_17
  · have h := g_f c4 h
    refine lv_aload_n hx hb dX6_change_7 rfl (lv_at hl 0 rfl) ?_
    refine zx_get (C := RX6) (T := TX6) (N := 2) F hW wu_X6 (zx_tab_l hk).1 (zx_tab_E hk) rfl 0 (by decide) wf_X6_9 rfl dX6_change_8 ?_
    refine lv_iload_n hx hb dX6_change_11 rfl (lv_at hl 1 rfl) ?_
    refine lv_dup2_11 hx hb dX6_change_12 rfl rfl ?_
    obtain ⟨c5, h⟩ := g_no h
    refine zx_iald (n := 256) F hW (zx_tab_l hk).2 (zx_tab_A hk) c5 dX6_change_13 ?_
    refine lv_iload_n hx hb dX6_change_14 rfl (lv_at hl 2 rfl) ?_
    refine lv_iadd hx hb dX6_change_15 ?_
    obtain ⟨c7, h⟩ := g_no h
    obtain ⟨S6, eS6, h⟩ := g_pin h
    refine zx_iast (n := 256) F hW hS (zx_tab_l hk).2 (fun f => (zx_tab_A hk)) c7 dX6_change_16 (fun H locs hW hS => ?_)
    have hW : zx_W D a cs S6 H := by rw [eS6]; exact hW
    exact zx_rv F hr hW hS h dX6_change_17
theorem Y_X1_readShares : zx_Y yX1_readShares cX1_readShares 9 none 0 := ⟨wc_X1_readShares, wn_X1, by decide, by decide, by decide +kernel⟩
set_option maxHeartbeats 4000000 in
set_option maxRecDepth 100000 in
theorem k_X1_readShares_L150 {l : Launch} {D : va_G} {a : Nat → Nat} {cs : zx_C} {p : Program} {e : Env} {s : State} {m : MethodId} {below : List Frame} {meth : Method} {c : Code} {fu : Nat}   (F : zx_F D a cs p m c cX1_readShares 9 s ([.ref (a 7)] : List Value).toArray RX1 meth) (hr : meth.sig.returnType = none) {r9 : Int32} {S9 : St}    (v4 : Int32) (t0 : Int32) (S : St) (h : f_X1_readShares_L150 fu    v4 t0 S = some (r9, S9)) (H : Heap) (locs : List Loc) (ls : Array Slot) (hW : zx_W D a cs S H) (hS : va_S (zx_A a) s.heap H locs) (hl : lv_has ls 9 [(4, .int v4)]) : W p l e ({ frames := 3, cells := 0, slots := 0, locals := 66 }) s m ([.ref (a 7)] : List Value).toArray below meth c H locs 0 0 (MQ below (zx_Qv D a cs S9) ([.ref (a 7)] : List Value).toArray s 0 0 (zx_A a)) (F0 m 150 ls [.int t0, .ref (a 7)]) := by
  obtain ⟨⟨hx, hb, hml, hown, hts⟩, hlk, hK, hJ, hN⟩ := id F
  unfold f_X1_readShares_L150 at h
  refine lv_iconst (v := 3) hx hb dX1_readShares_150 (by decide) ?_
  refine lv_iload hx hb dX1_readShares_151 (lv_at hl 0 rfl) ?_
  obtain ⟨r13, S14, h15, h⟩ := g_bd h
  refine zx_cv (zx_runV (q := (RX1, TX1, 16)) (As := [.int t0, .int (3 : Int32), .int v4]) (rest := []) F hW (c_X1_demand l D a cs t0 (3 : Int32) v4  S r13 S14 h15) Y_X1_demand wi_X1_demand ws_X1_demand wm_X1_124 ⟨rfl, rfl, Nat.le_of_ble_eq_true rfl, Nat.le_of_ble_eq_true rfl, Nat.le_of_ble_eq_true rfl, Nat.le_of_ble_eq_true rfl⟩ (by decide) zx_E7 rfl rfl hl.1 rfl (Nat.le_of_ble_eq_true rfl) dX1_readShares_153) hS (fun H locs hW hS => ?_)
  exact zx_rv F hr hW hS h dX1_readShares_156
set_option maxHeartbeats 4000000 in
set_option maxRecDepth 100000 in
theorem k_X1_readShares_L133 {l : Launch} {D : va_G} {a : Nat → Nat} {cs : zx_C} {p : Program} {e : Env} {s : State} {m : MethodId} {below : List Frame} {meth : Method} {c : Code} {fu : Nat}   (F : zx_F D a cs p m c cX1_readShares 9 s ([.ref (a 7)] : List Value).toArray RX1 meth) (hr : meth.sig.returnType = none) {r9 : Int32} {S9 : St}    (v3 : Int32) (v4 : Int32) (S : St) (h : f_X1_readShares_L133 fu    v3 v4 S = some (r9, S9)) (H : Heap) (locs : List Loc) (ls : Array Slot) (hW : zx_W D a cs S H) (hS : va_S (zx_A a) s.heap H locs) (hl : lv_has ls 9 [(0, .ref (a 7)), (3, .int v3), (4, .int v4)]) : W p l e ({ frames := 3, cells := 0, slots := 0, locals := 66 }) s m ([.ref (a 7)] : List Value).toArray below meth c H locs 0 0 (MQ below (zx_Qv D a cs S9) ([.ref (a 7)] : List Value).toArray s 0 0 (zx_A a)) (F0 m 133 ls []) := by
  obtain ⟨⟨hx, hb, hml, hown, hts⟩, hlk, hK, hJ, hN⟩ := id F
  unfold f_X1_readShares_L133 at h
  refine lv_aload_n hx hb dX1_readShares_133 rfl (lv_at hl 0 rfl) ?_
  refine lv_iload_n hx hb dX1_readShares_134 rfl (lv_at hl 1 rfl) ?_
  refine lv_aload_n hx hb dX1_readShares_135 rfl (lv_at hl 0 rfl) ?_
  obtain ⟨kt8, ekt8, h⟩ := g_pin h
  obtain ⟨hk7, h⟩ := g_ok h
  refine zx_get (C := RX1) (T := TX1) (N := 16) F hW wu_X1 (by decide) zx_E7 rfl 4 (by decide) wf_X1_36 rfl dX1_readShares_136 ?_
  rw [zx_rfo_tab (by rw [← ekt8]; exact hk7), ← ekt8]
  obtain ⟨r9, S10, h11, h⟩ := g_bd h
  refine zx_ci (zx_runV (q := (RX6, TX6, 2)) (As := []) (rest := [.int v3, .ref (a 7)]) F hW (c_X6_places l D a cs kt8 hk7 S r9 S10 h11) Y_X6_places wi_X6_places ws_X6_places wm_X1_152 ⟨rfl, rfl, Nat.le_of_ble_eq_true rfl, Nat.le_of_ble_eq_true rfl, Nat.le_of_ble_eq_true rfl, Nat.le_of_ble_eq_true rfl⟩ (zx_tab_l hk7).1 (zx_tab_E hk7) rfl rfl hl.1 rfl (Nat.le_of_ble_eq_true rfl) dX1_readShares_139) hS (fun H locs hW hS => ?_)
  refine lv_icmp_ne (tgt := 149) hx hb dX1_readShares_142 (by decide) (fun c12 => ?_) (fun c12 => ?_)
  · have h := g_f c12 h
    refine lv_iconst (v := 0) hx hb dX1_readShares_149 (by decide) ?_
    exact k_X1_readShares_L150  F hr   v4 (0 : Int32) S10 h _ _ _ hW hS (lv_sub hl [2] rfl)
  · have h := g_t c12 h
    refine lv_iconst (v := 1) hx hb dX1_readShares_145 (by decide) ?_
    refine lv_goto (tgt := 150) hx hb dX1_readShares_146 (by decide) ?_
    exact k_X1_readShares_L150  F hr   v4 (1 : Int32) S10 h _ _ _ hW hS (lv_sub hl [2] rfl)
set_option maxHeartbeats 4000000 in
set_option maxRecDepth 100000 in
theorem k_X1_readShares_L102 {l : Launch} {D : va_G} {a : Nat → Nat} {cs : zx_C} {p : Program} {e : Env} {s : State} {m : MethodId} {below : List Frame} {meth : Method} {c : Code} {fu : Nat}   (F : zx_F D a cs p m c cX1_readShares 9 s ([.ref (a 7)] : List Value).toArray RX1 meth) (hr : meth.sig.returnType = none) {r9 : Int32} {S9 : St} {K21 : Int32 → Int32 → Int32 → Int32 → Int32 → St → Option (Int32 × St)} (hK21 : ∀ (v1 : Int32) (v2 : Int32) (v3 : Int32) (v4 : Int32) (v5 : Int32) (S : St), K21 v1 v2 v3 v4 v5 S = some (r9, S9) → ∀ (H : Heap) (locs : List Loc) (ls : Array Slot), zx_W D a cs S H → va_S (zx_A a) s.heap H locs → lv_has ls 9 [(0, .ref (a 7)), (1, .int v1), (2, .int v2), (3, .int v3), (4, .int v4), (5, .int v5)] → W p l e ({ frames := 3, cells := 0, slots := 0, locals := 66 }) s m ([.ref (a 7)] : List Value).toArray below meth c H locs 0 0 (MQ below (zx_Qv D a cs S9) ([.ref (a 7)] : List Value).toArray s 0 0 (zx_A a)) (F0 m 21 ls []))  (v1 : Int32) (v3 : Int32) (v4 : Int32) (v5 : Int32) (v7 : Int32) (v8 : Int32) (t0 : Int32) (S : St) (h : f_X1_readShares_L102 fu  K21  v1 v3 v4 v5 v7 v8 t0 S = some (r9, S9)) (H : Heap) (locs : List Loc) (ls : Array Slot) (hW : zx_W D a cs S H) (hS : va_S (zx_A a) s.heap H locs) (hl : lv_has ls 9 [(0, .ref (a 7)), (1, .int v1), (3, .int v3), (4, .int v4), (5, .int v5), (7, .int v7), (8, .int v8)]) : W p l e ({ frames := 3, cells := 0, slots := 0, locals := 66 }) s m ([.ref (a 7)] : List Value).toArray below meth c H locs 0 0 (MQ below (zx_Qv D a cs S9) ([.ref (a 7)] : List Value).toArray s 0 0 (zx_A a)) (F0 m 102 ls [.int t0, .ref (a 7)]) := by
  obtain ⟨⟨hx, hb, hml, hown, hts⟩, hlk, hK, hJ, hN⟩ := id F
  unfold f_X1_readShares_L102 at h
  refine lv_iconst (v := 2) hx hb dX1_readShares_102 (by decide) ?_
  refine lv_iload hx hb dX1_readShares_103 (lv_at hl 3 rfl) ?_
  obtain ⟨r33, S34, h35, h⟩ := g_bd h
  refine zx_cv (zx_runV (q := (RX1, TX1, 16)) (As := [.int t0, .int (2 : Int32), .int v4]) (rest := []) F hW (c_X1_demand l D a cs t0 (2 : Int32) v4  S r33 S34 h35) Y_X1_demand wi_X1_demand ws_X1_demand wm_X1_124 ⟨rfl, rfl, Nat.le_of_ble_eq_true rfl, Nat.le_of_ble_eq_true rfl, Nat.le_of_ble_eq_true rfl, Nat.le_of_ble_eq_true rfl⟩ (by decide) zx_E7 rfl rfl hl.1 rfl (Nat.le_of_ble_eq_true rfl) dX1_readShares_105) hS (fun H locs hW hS => ?_)
  refine lv_aload_n hx hb dX1_readShares_108 rfl (lv_at hl 0 rfl) ?_
  obtain ⟨kt37, ekt37, h⟩ := g_pin h
  obtain ⟨hk36, h⟩ := g_ok h
  refine zx_get (C := RX1) (T := TX1) (N := 16) F hW wu_X1 (by decide) zx_E7 rfl 4 (by decide) wf_X1_36 rfl dX1_readShares_109 ?_
  rw [zx_rfo_tab (by rw [← ekt37]; exact hk36), ← ekt37]
  refine lv_iload hx hb dX1_readShares_112 (lv_at hl 5 rfl) ?_
  refine lv_iload hx hb dX1_readShares_114 (lv_at hl 6 rfl) ?_
  obtain ⟨r38, S39, h40, h⟩ := g_bd h
  refine zx_cv (zx_runV (q := (RX6, TX6, 2)) (As := [.int v7, .int v8]) (rest := []) F hW (c_X6_change l D a cs kt37 v7 v8 hk36 S34 r38 S39 h40) Y_X6_change wi_X6_change ws_X6_change wm_X1_155 ⟨rfl, rfl, Nat.le_of_ble_eq_true rfl, Nat.le_of_ble_eq_true rfl, Nat.le_of_ble_eq_true rfl, Nat.le_of_ble_eq_true rfl⟩ (zx_tab_l hk36).1 (zx_tab_E hk36) rfl rfl hl.1 rfl (Nat.le_of_ble_eq_true rfl) dX1_readShares_116) hS (fun H locs hW hS => ?_)
  refine lv_iload hx hb dX1_readShares_119 (lv_at hl 5 rfl) ?_
  refine lv_istore_n (lv' := [(2, .int v7), (0, .ref (a 7)), (1, .int v1), (3, .int v3), (4, .int v4), (5, .int v5), (7, .int v7), (8, .int v8)]) hx hb dX1_readShares_121 rfl hl (by decide) rfl (fun ls hl => ?_)
  refine lv_iload_n hx hb dX1_readShares_122 rfl (lv_at hl 3 rfl) ?_
  refine lv_iload hx hb dX1_readShares_123 (lv_at hl 7 rfl) ?_
  refine lv_iadd hx hb dX1_readShares_125 ?_
  obtain ⟨x41, ex41, h⟩ := g_pin h
  refine zx_nm ex41 ?_
  refine lv_istore_n (lv' := [(3, .int x41), (2, .int v7), (0, .ref (a 7)), (1, .int v1), (4, .int v4), (5, .int v5), (7, .int v7), (8, .int v8)]) hx hb dX1_readShares_126 rfl hl (by decide) rfl (fun ls hl => ?_)
  obtain ⟨x42, ex42, h⟩ := g_pin h
  refine lv_iinc (v := x42) (lv' := [(5, .int x42), (3, .int x41), (2, .int v7), (0, .ref (a 7)), (1, .int v1), (4, .int v4), (7, .int v7), (8, .int v8)]) hx hb dX1_readShares_127 hl (k := 5) rfl (by rw [ex42]; rfl) (by decide) rfl (fun ls hl => ?_)
  refine lv_goto (tgt := 21) hx hb dX1_readShares_130 (by decide) ?_
  exact hK21 v1 v7 x41 v4 x42 S39 h _ _ _ hW hS (lv_sub hl [3, 4, 2, 1, 5, 0] rfl)
set_option maxHeartbeats 4000000 in
set_option maxRecDepth 100000 in
theorem k_X1_readShares_L101 {l : Launch} {D : va_G} {a : Nat → Nat} {cs : zx_C} {p : Program} {e : Env} {s : State} {m : MethodId} {below : List Frame} {meth : Method} {c : Code} {fu : Nat}   (F : zx_F D a cs p m c cX1_readShares 9 s ([.ref (a 7)] : List Value).toArray RX1 meth) (hr : meth.sig.returnType = none) {r9 : Int32} {S9 : St} {K21 : Int32 → Int32 → Int32 → Int32 → Int32 → St → Option (Int32 × St)} (hK21 : ∀ (v1 : Int32) (v2 : Int32) (v3 : Int32) (v4 : Int32) (v5 : Int32) (S : St), K21 v1 v2 v3 v4 v5 S = some (r9, S9) → ∀ (H : Heap) (locs : List Loc) (ls : Array Slot), zx_W D a cs S H → va_S (zx_A a) s.heap H locs → lv_has ls 9 [(0, .ref (a 7)), (1, .int v1), (2, .int v2), (3, .int v3), (4, .int v4), (5, .int v5)] → W p l e ({ frames := 3, cells := 0, slots := 0, locals := 66 }) s m ([.ref (a 7)] : List Value).toArray below meth c H locs 0 0 (MQ below (zx_Qv D a cs S9) ([.ref (a 7)] : List Value).toArray s 0 0 (zx_A a)) (F0 m 21 ls []))  (v1 : Int32) (v3 : Int32) (v4 : Int32) (v5 : Int32) (v7 : Int32) (v8 : Int32) (S : St) (h : f_X1_readShares_L101 fu  K21  v1 v3 v4 v5 v7 v8 S = some (r9, S9)) (H : Heap) (locs : List Loc) (ls : Array Slot) (hW : zx_W D a cs S H) (hS : va_S (zx_A a) s.heap H locs) (hl : lv_has ls 9 [(0, .ref (a 7)), (1, .int v1), (3, .int v3), (4, .int v4), (5, .int v5), (7, .int v7), (8, .int v8)]) : W p l e ({ frames := 3, cells := 0, slots := 0, locals := 66 }) s m ([.ref (a 7)] : List Value).toArray below meth c H locs 0 0 (MQ below (zx_Qv D a cs S9) ([.ref (a 7)] : List Value).toArray s 0 0 (zx_A a)) (F0 m 101 ls [.ref (a 7)]) := by
  obtain ⟨⟨hx, hb, hml, hown, hts⟩, hlk, hK, hJ, hN⟩ := id F
  unfold f_X1_readShares_L101 at h
  refine lv_iconst (v := 0) hx hb dX1_readShares_101 (by decide) ?_
  exact k_X1_readShares_L102  F hr hK21  v1 v3 v4 v5 v7 v8 (0 : Int32) S h _ _ _ hW hS (lv_sub hl [0, 1, 2, 3, 4, 5, 6] rfl)
set_option maxHeartbeats 4000000 in
set_option maxRecDepth 100000 in
theorem k_X1_readShares_L59 {l : Launch} {D : va_G} {a : Nat → Nat} {cs : zx_C} {p : Program} {e : Env} {s : State} {m : MethodId} {below : List Frame} {meth : Method} {c : Code} {fu : Nat}   (F : zx_F D a cs p m c cX1_readShares 9 s ([.ref (a 7)] : List Value).toArray RX1 meth) (hr : meth.sig.returnType = none) {r9 : Int32} {S9 : St} {K21 : Int32 → Int32 → Int32 → Int32 → Int32 → St → Option (Int32 × St)} (hK21 : ∀ (v1 : Int32) (v2 : Int32) (v3 : Int32) (v4 : Int32) (v5 : Int32) (S : St), K21 v1 v2 v3 v4 v5 S = some (r9, S9) → ∀ (H : Heap) (locs : List Loc) (ls : Array Slot), zx_W D a cs S H → va_S (zx_A a) s.heap H locs → lv_has ls 9 [(0, .ref (a 7)), (1, .int v1), (2, .int v2), (3, .int v3), (4, .int v4), (5, .int v5)] → W p l e ({ frames := 3, cells := 0, slots := 0, locals := 66 }) s m ([.ref (a 7)] : List Value).toArray below meth c H locs 0 0 (MQ below (zx_Qv D a cs S9) ([.ref (a 7)] : List Value).toArray s 0 0 (zx_A a)) (F0 m 21 ls []))  (v1 : Int32) (v3 : Int32) (v5 : Int32) (v6 : Int32) (v7 : Int32) (t0 : Int32) (S : St) (h : f_X1_readShares_L59 fu  K21  v1 v3 v5 v6 v7 t0 S = some (r9, S9)) (H : Heap) (locs : List Loc) (ls : Array Slot) (hW : zx_W D a cs S H) (hS : va_S (zx_A a) s.heap H locs) (hl : lv_has ls 9 [(0, .ref (a 7)), (1, .int v1), (3, .int v3), (5, .int v5), (6, .int v6), (7, .int v7)]) : W p l e ({ frames := 3, cells := 0, slots := 0, locals := 66 }) s m ([.ref (a 7)] : List Value).toArray below meth c H locs 0 0 (MQ below (zx_Qv D a cs S9) ([.ref (a 7)] : List Value).toArray s 0 0 (zx_A a)) (F0 m 59 ls [.int t0, .ref (a 7)]) := by
  obtain ⟨⟨hx, hb, hml, hown, hts⟩, hlk, hK, hJ, hN⟩ := id F
  unfold f_X1_readShares_L59 at h
  refine lv_iconst (v := 2) hx hb dX1_readShares_59 (by decide) ?_
  refine lv_iload hx hb dX1_readShares_60 (lv_at hl 4 rfl) ?_
  obtain ⟨r25, S26, h27, h⟩ := g_bd h
  refine zx_cv (zx_runV (q := (RX1, TX1, 16)) (As := [.int t0, .int (2 : Int32), .int v6]) (rest := []) F hW (c_X1_demand l D a cs t0 (2 : Int32) v6  S r25 S26 h27) Y_X1_demand wi_X1_demand ws_X1_demand wm_X1_124 ⟨rfl, rfl, Nat.le_of_ble_eq_true rfl, Nat.le_of_ble_eq_true rfl, Nat.le_of_ble_eq_true rfl, Nat.le_of_ble_eq_true rfl⟩ (by decide) zx_E7 rfl rfl hl.1 rfl (Nat.le_of_ble_eq_true rfl) dX1_readShares_62) hS (fun H locs hW hS => ?_)
  refine lv_aload_n hx hb dX1_readShares_65 rfl (lv_at hl 0 rfl) ?_
  refine zx_get (C := RX1) (T := TX1) (N := 16) F hW wu_X1 (by decide) zx_E7 rfl 8 (by decide) wf_X1_51 rfl dX1_readShares_66 ?_
  obtain ⟨x28, ex28, h⟩ := g_pin h
  refine zx_nm ex28 ?_
  refine lv_istore (lv' := [(4, .int x28), (0, .ref (a 7)), (1, .int v1), (3, .int v3), (5, .int v5), (6, .int v6), (7, .int v7)]) hx hb dX1_readShares_69 hl (by decide) rfl (fun ls hl => ?_)
  refine lv_aload_n hx hb dX1_readShares_71 rfl (lv_at hl 1 rfl) ?_
  refine lv_iconst (v := 2) hx hb dX1_readShares_72 (by decide) ?_
  obtain ⟨r29, S30, h31, h⟩ := g_bd h
  refine zx_ci (zx_runV (q := (RX1, TX1, 16)) (As := [.int (2 : Int32)]) (rest := []) F hW (c_X1_readNumber l D a cs fu (2 : Int32)  S26 r29 S30 h31) Y_X1_readNumber wi_X1_readNumber ws_X1_readNumber wm_X1_129 ⟨rfl, rfl, Nat.le_of_ble_eq_true rfl, Nat.le_of_ble_eq_true rfl, Nat.le_of_ble_eq_true rfl, Nat.le_of_ble_eq_true rfl⟩ (by decide) zx_E7 rfl rfl hl.1 rfl (Nat.le_of_ble_eq_true rfl) dX1_readShares_73) hS (fun H locs hW hS => ?_)
  refine lv_istore (lv' := [(8, .int r29), (4, .int x28), (0, .ref (a 7)), (1, .int v1), (3, .int v3), (5, .int v5), (6, .int v6), (7, .int v7)]) hx hb dX1_readShares_76 hl (by decide) rfl (fun ls hl => ?_)
  refine lv_aload_n hx hb dX1_readShares_78 rfl (lv_at hl 2 rfl) ?_
  refine lv_iload hx hb dX1_readShares_79 (lv_at hl 0 rfl) ?_
  refine lv_iconst (v := 1) hx hb dX1_readShares_81 (by decide) ?_
  refine lv_icmp_lt (tgt := 101) hx hb dX1_readShares_82 (by decide) (fun c32 => ?_) (fun c32 => ?_)
  · have h := g_t c32 h
    exact k_X1_readShares_L101  F hr hK21  v1 v3 x28 v5 v7 r29 S30 h _ _ _ hW hS (lv_sub hl [2, 3, 4, 1, 5, 7, 0] rfl)
  · have h := g_f c32 h
    refine lv_iload hx hb dX1_readShares_85 (lv_at hl 0 rfl) ?_
    refine lv_aload_n hx hb dX1_readShares_87 rfl (lv_at hl 2 rfl) ?_
    obtain ⟨kt44, ekt44, h⟩ := g_pin h
    obtain ⟨hk43, h⟩ := g_ok h
    refine zx_get (C := RX1) (T := TX1) (N := 16) F hW wu_X1 (by decide) zx_E7 rfl 4 (by decide) wf_X1_36 rfl dX1_readShares_88 ?_
    rw [zx_rfo_tab (by rw [← ekt44]; exact hk43), ← ekt44]
    obtain ⟨r45, S46, h47, h⟩ := g_bd h
    refine zx_ci (zx_runV (q := (RX6, TX6, 2)) (As := []) (rest := [.int r29, .ref (a 7)]) F hW (c_X6_places l D a cs kt44 hk43 S30 r45 S46 h47) Y_X6_places wi_X6_places ws_X6_places wm_X1_152 ⟨rfl, rfl, Nat.le_of_ble_eq_true rfl, Nat.le_of_ble_eq_true rfl, Nat.le_of_ble_eq_true rfl, Nat.le_of_ble_eq_true rfl⟩ (zx_tab_l hk43).1 (zx_tab_E hk43) rfl rfl hl.1 rfl (Nat.le_of_ble_eq_true rfl) dX1_readShares_91) hS (fun H locs hW hS => ?_)
    refine lv_icmp_gt (tgt := 101) hx hb dX1_readShares_94 (by decide) (fun c48 => ?_) (fun c48 => ?_)
    · have h := g_t c48 h
      exact k_X1_readShares_L101  F hr hK21  v1 v3 x28 v5 v7 r29 S46 h _ _ _ hW hS (lv_sub hl [2, 3, 4, 1, 5, 7, 0] rfl)
    · have h := g_f c48 h
      refine lv_iconst (v := 1) hx hb dX1_readShares_97 (by decide) ?_
      refine lv_goto (tgt := 102) hx hb dX1_readShares_98 (by decide) ?_
      exact k_X1_readShares_L102  F hr hK21  v1 v3 x28 v5 v7 r29 (1 : Int32) S46 h _ _ _ hW hS (lv_sub hl [2, 3, 4, 1, 5, 7, 0] rfl)
set_option maxHeartbeats 4000000 in
set_option maxRecDepth 100000 in
theorem k_X1_readShares_L21 {l : Launch} {D : va_G} {a : Nat → Nat} {cs : zx_C} {p : Program} {e : Env} {s : State} {m : MethodId} {below : List Frame} {meth : Method} {c : Code} {fu : Nat}   (F : zx_F D a cs p m c cX1_readShares 9 s ([.ref (a 7)] : List Value).toArray RX1 meth) (hr : meth.sig.returnType = none) {r9 : Int32} {S9 : St}    : ∀ (n : Nat) (v1 : Int32) (v2 : Int32) (v3 : Int32) (v4 : Int32) (v5 : Int32) (S : St), f_X1_readShares_L21 fu    n v1 v2 v3 v4 v5 S = some (r9, S9) → ∀ (H : Heap) (locs : List Loc) (ls : Array Slot), zx_W D a cs S H → va_S (zx_A a) s.heap H locs → lv_has ls 9 [(0, .ref (a 7)), (1, .int v1), (2, .int v2), (3, .int v3), (4, .int v4), (5, .int v5)] → W p l e ({ frames := 3, cells := 0, slots := 0, locals := 66 }) s m ([.ref (a 7)] : List Value).toArray below meth c H locs 0 0 (MQ below (zx_Qv D a cs S9) ([.ref (a 7)] : List Value).toArray s 0 0 (zx_A a)) (F0 m 21 ls []) := by
  obtain ⟨⟨hx, hb, hml, hown, hts⟩, hlk, hK, hJ, hN⟩ := id F
  intro n
  induction n with
  | zero =>
    intro v1 v2 v3 v4 v5 S h
    exact absurd h (fun q => by cases q)
  | succ n ih =>
    intro v1 v2 v3 v4 v5 S h H locs ls hW hS hl
    rw [f_X1_readShares_L21_s] at h
    refine lv_iload hx hb dX1_readShares_21 (lv_at hl 5 rfl) ?_
    refine lv_iload_n hx hb dX1_readShares_23 rfl (lv_at hl 1 rfl) ?_
    refine lv_icmp_ge (tgt := 133) hx hb dX1_readShares_24 (by decide) (fun c6 => ?_) (fun c6 => ?_)
    · have h := g_t c6 h
      exact k_X1_readShares_L133  F hr   v3 v4 S h _ _ _ hW hS (lv_sub hl [0, 3, 4] rfl)
    · have h := g_f c6 h
      refine lv_aload_n hx hb dX1_readShares_27 rfl (lv_at hl 0 rfl) ?_
      obtain ⟨r16, S17, h18, h⟩ := g_bd h
      refine zx_ci (zx_runV (q := (RX1, TX1, 16)) (As := []) (rest := []) F hW (c_X1_isWhole l D a cs   S r16 S17 h18) Y_X1_isWhole wi_X1_isWhole ws_X1_isWhole wm_X1_84 ⟨rfl, rfl, Nat.le_of_ble_eq_true rfl, Nat.le_of_ble_eq_true rfl, Nat.le_of_ble_eq_true rfl, Nat.le_of_ble_eq_true rfl⟩ (by decide) zx_E7 rfl rfl hl.1 rfl (Nat.le_of_ble_eq_true rfl) dX1_readShares_28) hS (fun H locs hW hS => ?_)
      refine lv_if_eq (tgt := 133) hx hb dX1_readShares_31 (by decide) (fun c19 => ?_) (fun c19 => ?_)
      · have h := g_t c19 h
        exact k_X1_readShares_L133  F hr   v3 v4 S17 h _ _ _ hW hS (lv_sub hl [0, 3, 4] rfl)
      · have h := g_f c19 h
        refine lv_aload_n hx hb dX1_readShares_34 rfl (lv_at hl 0 rfl) ?_
        refine zx_get (C := RX1) (T := TX1) (N := 16) F hW wu_X1 (by decide) zx_E7 rfl 8 (by decide) wf_X1_51 rfl dX1_readShares_35 ?_
        obtain ⟨x20, ex20, h⟩ := g_pin h
        refine zx_nm ex20 ?_
        refine lv_istore (lv' := [(6, .int x20), (0, .ref (a 7)), (1, .int v1), (2, .int v2), (3, .int v3), (4, .int v4), (5, .int v5)]) hx hb dX1_readShares_38 hl (by decide) rfl (fun ls hl => ?_)
        refine lv_aload_n hx hb dX1_readShares_40 rfl (lv_at hl 1 rfl) ?_
        refine lv_iconst (v := 1) hx hb dX1_readShares_41 (by decide) ?_
        obtain ⟨r21, S22, h23, h⟩ := g_bd h
        refine zx_ci (zx_runV (q := (RX1, TX1, 16)) (As := [.int (1 : Int32)]) (rest := []) F hW (c_X1_readNumber l D a cs fu (1 : Int32)  S17 r21 S22 h23) Y_X1_readNumber wi_X1_readNumber ws_X1_readNumber wm_X1_129 ⟨rfl, rfl, Nat.le_of_ble_eq_true rfl, Nat.le_of_ble_eq_true rfl, Nat.le_of_ble_eq_true rfl, Nat.le_of_ble_eq_true rfl⟩ (by decide) zx_E7 rfl rfl hl.1 rfl (Nat.le_of_ble_eq_true rfl) dX1_readShares_42) hS (fun H locs hW hS => ?_)
        refine lv_istore (lv' := [(7, .int r21), (6, .int x20), (0, .ref (a 7)), (1, .int v1), (2, .int v2), (3, .int v3), (4, .int v4), (5, .int v5)]) hx hb dX1_readShares_45 hl (by decide) rfl (fun ls hl => ?_)
        refine lv_aload_n hx hb dX1_readShares_47 rfl (lv_at hl 2 rfl) ?_
        refine lv_iload hx hb dX1_readShares_48 (lv_at hl 0 rfl) ?_
        refine lv_iload_n hx hb dX1_readShares_50 rfl (lv_at hl 4 rfl) ?_
        refine lv_icmp_le (tgt := 58) hx hb dX1_readShares_51 (by decide) (fun c24 => ?_) (fun c24 => ?_)
        · have h := g_t c24 h
          refine lv_iconst (v := 0) hx hb dX1_readShares_58 (by decide) ?_
          exact k_X1_readShares_L59  F hr ih  v1 v3 v5 x20 r21 (0 : Int32) S22 h _ _ _ hW hS (lv_sub hl [2, 3, 5, 7, 1, 0] rfl)
        · have h := g_f c24 h
          refine lv_iconst (v := 1) hx hb dX1_readShares_54 (by decide) ?_
          refine lv_goto (tgt := 59) hx hb dX1_readShares_55 (by decide) ?_
          exact k_X1_readShares_L59  F hr ih  v1 v3 v5 x20 r21 (1 : Int32) S22 h _ _ _ hW hS (lv_sub hl [2, 3, 5, 7, 1, 0] rfl)
set_option maxHeartbeats 4000000 in
set_option maxRecDepth 100000 in
theorem c_X1_readShares (l : Launch) (D : va_G) (a : Nat → Nat) (cs : zx_C) (fu : Nat)   (S : St) (r9 : Int32) (S9 : St) (h : f_X1_readShares fu  S = some (r9, S9)) : Met l yX1_readShares (Cond.code yX1_readShares cX1_readShares 9 none :: zx_tb) ({ frames := 3, cells := 0, slots := 0, locals := 66 }) (zx_P D a cs [.ref (a 7)] S) (zx_Qv D a cs S9) 0 0 (zx_A a) := by
  refine zx_met (own := RX1) (by decide) (Nat.le_of_ble_eq_true rfl) rfl ?_
  intro p e s m below meth c ls F hr hW hS hl
  have hl : lv_has ls 9 [(0, .ref (a 7))] := hl
  obtain ⟨⟨hx, hb, hml, hown, hts⟩, hlk, hK, hJ, hN⟩ := id F
  unfold f_X1_readShares at h
  refine lv_aload_n hx hb dX1_readShares_0 rfl (lv_at hl 0 rfl) ?_
  refine lv_iconst (v := 1) hx hb dX1_readShares_1 (by decide) ?_
  obtain ⟨r1, S2, h3, h⟩ := g_bd h
  refine zx_ci (zx_runV (q := (RX1, TX1, 16)) (As := [.int (1 : Int32)]) (rest := []) F hW (c_X1_readNumber l D a cs fu (1 : Int32)  S r1 S2 h3) Y_X1_readNumber wi_X1_readNumber ws_X1_readNumber wm_X1_129 ⟨rfl, rfl, Nat.le_of_ble_eq_true rfl, Nat.le_of_ble_eq_true rfl, Nat.le_of_ble_eq_true rfl, Nat.le_of_ble_eq_true rfl⟩ (by decide) zx_E7 rfl rfl hl.1 rfl (Nat.le_of_ble_eq_true rfl) dX1_readShares_2) hS (fun H locs hW hS => ?_)
  refine lv_iconst (v := 1) hx hb dX1_readShares_5 (by decide) ?_
  refine lv_iadd hx hb dX1_readShares_6 ?_
  obtain ⟨x4, ex4, h⟩ := g_pin h
  refine zx_nm ex4 ?_
  refine lv_istore_n (lv' := [(1, .int x4), (0, .ref (a 7))]) hx hb dX1_readShares_7 rfl hl (by decide) rfl (fun ls hl => ?_)
  refine lv_iconst (v := -1) hx hb dX1_readShares_8 (by decide) ?_
  refine lv_istore_n (lv' := [(2, .int (-1 : Int32)), (1, .int x4), (0, .ref (a 7))]) hx hb dX1_readShares_9 rfl hl (by decide) rfl (fun ls hl => ?_)
  refine lv_iconst (v := 0) hx hb dX1_readShares_10 (by decide) ?_
  refine lv_istore_n (lv' := [(3, .int (0 : Int32)), (2, .int (-1 : Int32)), (1, .int x4), (0, .ref (a 7))]) hx hb dX1_readShares_11 rfl hl (by decide) rfl (fun ls hl => ?_)
  refine lv_aload_n hx hb dX1_readShares_12 rfl (lv_at hl 3 rfl) ?_
  refine zx_get (C := RX1) (T := TX1) (N := 16) F hW wu_X1 (by decide) zx_E7 rfl 8 (by decide) wf_X1_51 rfl dX1_readShares_13 ?_
  obtain ⟨x5, ex5, h⟩ := g_pin h
  refine zx_nm ex5 ?_
  refine lv_istore (lv' := [(4, .int x5), (3, .int (0 : Int32)), (2, .int (-1 : Int32)), (1, .int x4), (0, .ref (a 7))]) hx hb dX1_readShares_16 hl (by decide) rfl (fun ls hl => ?_)
  refine lv_iconst (v := 0) hx hb dX1_readShares_18 (by decide) ?_
  refine lv_istore (lv' := [(5, .int (0 : Int32)), (4, .int x5), (3, .int (0 : Int32)), (2, .int (-1 : Int32)), (1, .int x4), (0, .ref (a 7))]) hx hb dX1_readShares_19 hl (by decide) rfl (fun ls hl => ?_)
  exact k_X1_readShares_L21  F hr   fu x4 (-1 : Int32) (0 : Int32) x5 (0 : Int32) S2 h _ _ _ hW hS (lv_sub hl [5, 4, 3, 2, 1, 0] rfl)
theorem Y_X1_readSizes : zx_Y yX1_readSizes cX1_readSizes 2 none 0 := ⟨wc_X1_readSizes, wn_X1, by decide, by decide, by decide +kernel⟩
set_option maxHeartbeats 4000000 in
set_option maxRecDepth 100000 in
theorem k_X1_readSizes_L30 {l : Launch} {D : va_G} {a : Nat → Nat} {cs : zx_C} {p : Program} {e : Env} {s : State} {m : MethodId} {below : List Frame} {meth : Method} {c : Code} {fu : Nat}   (F : zx_F D a cs p m c cX1_readSizes 2 s ([.ref (a 7)] : List Value).toArray RX1 meth) (hr : meth.sig.returnType = none) {r9 : Int32} {S9 : St}    (v1 : Int32) (t0 : Int32) (S : St) (h : f_X1_readSizes_L30 fu    v1 t0 S = some (r9, S9)) (H : Heap) (locs : List Loc) (ls : Array Slot) (hW : zx_W D a cs S H) (hS : va_S (zx_A a) s.heap H locs) (hl : lv_has ls 2 [(0, .ref (a 7)), (1, .int v1)]) : W p l e ({ frames := 3, cells := 0, slots := 0, locals := 66 }) s m ([.ref (a 7)] : List Value).toArray below meth c H locs 0 0 (MQ below (zx_Qv D a cs S9) ([.ref (a 7)] : List Value).toArray s 0 0 (zx_A a)) (F0 m 30 ls [.int t0, .ref (a 7)]) := by
  obtain ⟨⟨hx, hb, hml, hown, hts⟩, hlk, hK, hJ, hN⟩ := id F
  unfold f_X1_readSizes_L30 at h
  refine lv_iconst (v := 2) hx hb dX1_readSizes_30 (by decide) ?_
  refine lv_iload_n hx hb dX1_readSizes_31 rfl (lv_at hl 1 rfl) ?_
  obtain ⟨r7, S8, h9, h⟩ := g_bd h
  refine zx_cv (zx_runV (q := (RX1, TX1, 16)) (As := [.int t0, .int (2 : Int32), .int v1]) (rest := []) F hW (c_X1_demand l D a cs t0 (2 : Int32) v1  S r7 S8 h9) Y_X1_demand wi_X1_demand ws_X1_demand wm_X1_124 ⟨rfl, rfl, Nat.le_of_ble_eq_true rfl, Nat.le_of_ble_eq_true rfl, Nat.le_of_ble_eq_true rfl, Nat.le_of_ble_eq_true rfl⟩ (by decide) zx_E7 rfl rfl hl.1 rfl (Nat.le_of_ble_eq_true rfl) dX1_readSizes_32) hS (fun H locs hW hS => ?_)
  refine lv_aload_n hx hb dX1_readSizes_35 rfl (lv_at hl 0 rfl) ?_
  refine lv_aload_n hx hb dX1_readSizes_36 rfl (lv_at hl 0 rfl) ?_
  refine lv_iconst (v := 2) hx hb dX1_readSizes_37 (by decide) ?_
  obtain ⟨r10, S11, h12, h⟩ := g_bd h
  refine zx_ci (zx_runV (q := (RX1, TX1, 16)) (As := [.int (2 : Int32)]) (rest := [.ref (a 7)]) F hW (c_X1_readNumber l D a cs fu (2 : Int32)  S8 r10 S11 h12) Y_X1_readNumber wi_X1_readNumber ws_X1_readNumber wm_X1_129 ⟨rfl, rfl, Nat.le_of_ble_eq_true rfl, Nat.le_of_ble_eq_true rfl, Nat.le_of_ble_eq_true rfl, Nat.le_of_ble_eq_true rfl⟩ (by decide) zx_E7 rfl rfl hl.1 rfl (Nat.le_of_ble_eq_true rfl) dX1_readSizes_38) hS (fun H locs hW hS => ?_)
  obtain ⟨S13, eS13, h⟩ := g_pin h
  refine zx_putv (C := RX1) (T := TX1) (N := 16) F hW hS wu_X1 tyX1_ok nmX1 (by decide) zx_E7 rfl 14 (by decide) wf_X1_69 rfl r10 rfl rfl (Nat.le_of_ble_eq_true rfl) rfl dX1_readSizes_41 (fun H locs hW hS => ?_)
  have hW : zx_W D a cs S13 H := by rw [eS13]; exact hW
  exact zx_rv F hr hW hS h dX1_readSizes_44
set_option maxHeartbeats 4000000 in
set_option maxRecDepth 100000 in
theorem c_X1_readSizes (l : Launch) (D : va_G) (a : Nat → Nat) (cs : zx_C) (fu : Nat)   (S : St) (r9 : Int32) (S9 : St) (h : f_X1_readSizes fu  S = some (r9, S9)) : Met l yX1_readSizes (Cond.code yX1_readSizes cX1_readSizes 2 none :: zx_tb) ({ frames := 3, cells := 0, slots := 0, locals := 66 }) (zx_P D a cs [.ref (a 7)] S) (zx_Qv D a cs S9) 0 0 (zx_A a) := by
  refine zx_met (own := RX1) (by decide) (Nat.le_of_ble_eq_true rfl) rfl ?_
  intro p e s m below meth c ls F hr hW hS hl
  have hl : lv_has ls 2 [(0, .ref (a 7))] := hl
  obtain ⟨⟨hx, hb, hml, hown, hts⟩, hlk, hK, hJ, hN⟩ := id F
  unfold f_X1_readSizes at h
  refine lv_aload_n hx hb dX1_readSizes_0 rfl (lv_at hl 0 rfl) ?_
  refine zx_get (C := RX1) (T := TX1) (N := 16) F hW wu_X1 (by decide) zx_E7 rfl 8 (by decide) wf_X1_51 rfl dX1_readSizes_1 ?_
  obtain ⟨x1, ex1, h⟩ := g_pin h
  refine zx_nm ex1 ?_
  refine lv_istore_n (lv' := [(1, .int x1), (0, .ref (a 7))]) hx hb dX1_readSizes_4 rfl hl (by decide) rfl (fun ls hl => ?_)
  refine lv_aload_n hx hb dX1_readSizes_5 rfl (lv_at hl 1 rfl) ?_
  refine lv_aload_n hx hb dX1_readSizes_6 rfl (lv_at hl 1 rfl) ?_
  refine lv_iconst (v := 2) hx hb dX1_readSizes_7 (by decide) ?_
  obtain ⟨r2, S3, h4, h⟩ := g_bd h
  refine zx_ci (zx_runV (q := (RX1, TX1, 16)) (As := [.int (2 : Int32)]) (rest := [.ref (a 7)]) F hW (c_X1_readNumber l D a cs fu (2 : Int32)  S r2 S3 h4) Y_X1_readNumber wi_X1_readNumber ws_X1_readNumber wm_X1_129 ⟨rfl, rfl, Nat.le_of_ble_eq_true rfl, Nat.le_of_ble_eq_true rfl, Nat.le_of_ble_eq_true rfl, Nat.le_of_ble_eq_true rfl⟩ (by decide) zx_E7 rfl rfl hl.1 rfl (Nat.le_of_ble_eq_true rfl) dX1_readSizes_8) hS (fun H locs hW hS => ?_)
  obtain ⟨S5, eS5, h⟩ := g_pin h
  refine zx_putv (C := RX1) (T := TX1) (N := 16) F hW hS wu_X1 tyX1_ok nmX1 (by decide) zx_E7 rfl 11 (by decide) wf_X1_60 rfl r2 rfl rfl (Nat.le_of_ble_eq_true rfl) rfl dX1_readSizes_11 (fun H locs hW hS => ?_)
  have hW : zx_W D a cs S5 H := by rw [eS5]; exact hW
  refine lv_aload_n hx hb dX1_readSizes_14 rfl (lv_at hl 1 rfl) ?_
  refine lv_aload_n hx hb dX1_readSizes_15 rfl (lv_at hl 1 rfl) ?_
  refine zx_get (C := RX1) (T := TX1) (N := 16) F hW wu_X1 (by decide) zx_E7 rfl 11 (by decide) wf_X1_60 rfl dX1_readSizes_16 ?_
  refine lv_sipush (v := 1400) hx hb dX1_readSizes_19 (by decide) ?_
  refine lv_icmp_gt (tgt := 29) hx hb dX1_readSizes_22 (by decide) (fun c6 => ?_) (fun c6 => ?_)
  · have h := g_t c6 h
    refine lv_iconst (v := 0) hx hb dX1_readSizes_29 (by decide) ?_
    exact k_X1_readSizes_L30  F hr   x1 (0 : Int32) S5 h _ _ _ hW hS (lv_sub hl [1, 0] rfl)
  · have h := g_f c6 h
    refine lv_iconst (v := 1) hx hb dX1_readSizes_25 (by decide) ?_
    refine lv_goto (tgt := 30) hx hb dX1_readSizes_26 (by decide) ?_
    exact k_X1_readSizes_L30  F hr   x1 (1 : Int32) S5 h _ _ _ hW hS (lv_sub hl [1, 0] rfl)
theorem Y_X1_readStates : zx_Y yX1_readStates cX1_readStates 3 none 0 := ⟨wc_X1_readStates, wn_X1, by decide, by decide, by decide +kernel⟩
set_option maxHeartbeats 4000000 in
set_option maxRecDepth 100000 in
theorem k_X1_readStates_L10 {l : Launch} {D : va_G} {a : Nat → Nat} {cs : zx_C} {p : Program} {e : Env} {s : State} {m : MethodId} {below : List Frame} {meth : Method} {c : Code} {fu : Nat}   (F : zx_F D a cs p m c cX1_readStates 3 s ([.ref (a 7)] : List Value).toArray RX1 meth) (hr : meth.sig.returnType = none) {r9 : Int32} {S9 : St}    : ∀ (n : Nat) (v1 : Int32) (S : St), f_X1_readStates_L10 fu    n v1 S = some (r9, S9) → ∀ (H : Heap) (locs : List Loc) (ls : Array Slot), zx_W D a cs S H → va_S (zx_A a) s.heap H locs → lv_has ls 3 [(0, .ref (a 7)), (1, .int v1)] → W p l e ({ frames := 3, cells := 0, slots := 0, locals := 66 }) s m ([.ref (a 7)] : List Value).toArray below meth c H locs 0 0 (MQ below (zx_Qv D a cs S9) ([.ref (a 7)] : List Value).toArray s 0 0 (zx_A a)) (F0 m 10 ls []) := by
  obtain ⟨⟨hx, hb, hml, hown, hts⟩, hlk, hK, hJ, hN⟩ := id F
  intro n
  induction n with
  | zero =>
    intro v1 S h
    exact absurd h (fun q => by cases q)
  | succ n ih =>
    intro v1 S h H locs ls hW hS hl
    rw [f_X1_readStates_L10_s] at h
    refine lv_iload_n hx hb dX1_readStates_10 rfl (lv_at hl 1 rfl) ?_
    refine lv_aload_n hx hb dX1_readStates_11 rfl (lv_at hl 0 rfl) ?_
    refine zx_get (C := RX1) (T := TX1) (N := 16) F hW wu_X1 (by decide) zx_E7 rfl 0 (by decide) wf_X1_12 rfl dX1_readStates_12 ?_
    obtain ⟨r2, S3, h4, h⟩ := g_bd h
    refine zx_ci (zx_runV (q := (RX0, TX0, 8)) (As := []) (rest := [.int v1]) F hW (c_X0_stateCount l D a cs   S r2 S3 h4) Y_X0_stateCount wi_X0_stateCount ws_X0_stateCount wm_X1_159 ⟨rfl, rfl, Nat.le_of_ble_eq_true rfl, Nat.le_of_ble_eq_true rfl, Nat.le_of_ble_eq_true rfl, Nat.le_of_ble_eq_true rfl⟩ (by decide) zx_E8 rfl rfl hl.1 rfl (Nat.le_of_ble_eq_true rfl) dX1_readStates_15) hS (fun H locs hW hS => ?_)
    refine lv_icmp_ge (tgt := 76) hx hb dX1_readStates_18 (by decide) (fun c5 => ?_) (fun c5 => ?_)
    · have h := g_t c5 h
      exact zx_rv F hr hW hS h dX1_readStates_76
    · have h := g_f c5 h
      refine lv_aload_n hx hb dX1_readStates_21 rfl (lv_at hl 0 rfl) ?_
      refine zx_get (C := RX1) (T := TX1) (N := 16) F hW wu_X1 (by decide) zx_E7 rfl 8 (by decide) wf_X1_51 rfl dX1_readStates_22 ?_
      obtain ⟨x6, ex6, h⟩ := g_pin h
      refine zx_nm ex6 ?_
      refine lv_istore_n (lv' := [(2, .int x6), (0, .ref (a 7)), (1, .int v1)]) hx hb dX1_readStates_25 rfl hl (by decide) rfl (fun ls hl => ?_)
      refine lv_aload_n hx hb dX1_readStates_26 rfl (lv_at hl 1 rfl) ?_
      refine zx_get (C := RX1) (T := TX1) (N := 16) F hW wu_X1 (by decide) zx_E7 rfl 2 (by decide) wf_X1_25 rfl dX1_readStates_27 ?_
      refine lv_iload_n hx hb dX1_readStates_30 rfl (lv_at hl 2 rfl) ?_
      refine lv_aload_n hx hb dX1_readStates_31 rfl (lv_at hl 1 rfl) ?_
      refine zx_get (C := RX1) (T := TX1) (N := 16) F hW wu_X1 (by decide) zx_E7 rfl 0 (by decide) wf_X1_12 rfl dX1_readStates_32 ?_
      obtain ⟨r7, S8, h9, h⟩ := g_bd h
      refine zx_ci (zx_runV (q := (RX0, TX0, 8)) (As := []) (rest := [.int v1, .ref (a 18)]) F hW (c_X0_stateBase l D a cs   S3 r7 S8 h9) Y_X0_stateBase wi_X0_stateBase ws_X0_stateBase wm_X1_162 ⟨rfl, rfl, Nat.le_of_ble_eq_true rfl, Nat.le_of_ble_eq_true rfl, Nat.le_of_ble_eq_true rfl, Nat.le_of_ble_eq_true rfl⟩ (by decide) zx_E8 rfl rfl hl.1 rfl (Nat.le_of_ble_eq_true rfl) dX1_readStates_35) hS (fun H locs hW hS => ?_)
      refine lv_aload_n hx hb dX1_readStates_38 rfl (lv_at hl 1 rfl) ?_
      refine lv_aload_n hx hb dX1_readStates_39 rfl (lv_at hl 1 rfl) ?_
      refine zx_get (C := RX1) (T := TX1) (N := 16) F hW wu_X1 (by decide) zx_E7 rfl 0 (by decide) wf_X1_12 rfl dX1_readStates_40 ?_
      obtain ⟨r10, S11, h12, h⟩ := g_bd h
      refine zx_ci (zx_runV (q := (RX0, TX0, 8)) (As := []) (rest := [.ref (a 7), .int r7, .int v1, .ref (a 18)]) F hW (c_X0_stateBytes l D a cs   S8 r10 S11 h12) Y_X0_stateBytes wi_X0_stateBytes ws_X0_stateBytes wm_X1_165 ⟨rfl, rfl, Nat.le_of_ble_eq_true rfl, Nat.le_of_ble_eq_true rfl, Nat.le_of_ble_eq_true rfl, Nat.le_of_ble_eq_true rfl⟩ (by decide) zx_E8 rfl rfl hl.1 rfl (Nat.le_of_ble_eq_true rfl) dX1_readStates_43) hS (fun H locs hW hS => ?_)
      obtain ⟨r13, S14, h15, h⟩ := g_bd h
      refine zx_ci (zx_runV (q := (RX1, TX1, 16)) (As := [.int r10]) (rest := [.int r7, .int v1, .ref (a 18)]) F hW (c_X1_readNumber l D a cs fu r10  S11 r13 S14 h15) Y_X1_readNumber wi_X1_readNumber ws_X1_readNumber wm_X1_129 ⟨rfl, rfl, Nat.le_of_ble_eq_true rfl, Nat.le_of_ble_eq_true rfl, Nat.le_of_ble_eq_true rfl, Nat.le_of_ble_eq_true rfl⟩ (by decide) zx_E7 rfl rfl hl.1 rfl (Nat.le_of_ble_eq_true rfl) dX1_readStates_46) hS (fun H locs hW hS => ?_)
      refine lv_iadd hx hb dX1_readStates_49 ?_
      obtain ⟨c17, h⟩ := g_no h
      obtain ⟨S16, eS16, h⟩ := g_pin h
      refine zx_iast (n := 2) F hW hS (by decide) (fun f => zx_E18) c17 dX1_readStates_50 (fun H locs hW hS => ?_)
      have hW : zx_W D a cs S16 H := by rw [eS16]; exact hW
      refine lv_aload_n hx hb dX1_readStates_51 rfl (lv_at hl 1 rfl) ?_
      refine lv_aload_n hx hb dX1_readStates_52 rfl (lv_at hl 1 rfl) ?_
      refine zx_get (C := RX1) (T := TX1) (N := 16) F hW wu_X1 (by decide) zx_E7 rfl 0 (by decide) wf_X1_12 rfl dX1_readStates_53 ?_
      refine lv_aload_n hx hb dX1_readStates_56 rfl (lv_at hl 1 rfl) ?_
      refine zx_get (C := RX1) (T := TX1) (N := 16) F hW wu_X1 (by decide) zx_E7 rfl 2 (by decide) wf_X1_25 rfl dX1_readStates_57 ?_
      refine lv_iload_n hx hb dX1_readStates_60 rfl (lv_at hl 2 rfl) ?_
      obtain ⟨c18, h⟩ := g_no h
      refine zx_iald (n := 2) F hW (by decide) zx_E18 c18 dX1_readStates_61 ?_
      obtain ⟨r19, S20, h21, h⟩ := g_bd h
      refine zx_ci (zx_runV (q := (RX0, TX0, 8)) (As := [.int (S16 18 v1.toNatClampNeg)]) (rest := [.ref (a 7)]) F hW (c_X0_isState l D a cs (S16 18 v1.toNatClampNeg)  S16 r19 S20 h21) Y_X0_isState wi_X0_isState ws_X0_isState wm_X1_168 ⟨rfl, rfl, Nat.le_of_ble_eq_true rfl, Nat.le_of_ble_eq_true rfl, Nat.le_of_ble_eq_true rfl, Nat.le_of_ble_eq_true rfl⟩ (by decide) zx_E8 rfl rfl hl.1 rfl (Nat.le_of_ble_eq_true rfl) dX1_readStates_62) hS (fun H locs hW hS => ?_)
      refine lv_iconst (v := 4) hx hb dX1_readStates_65 (by decide) ?_
      refine lv_iload_n hx hb dX1_readStates_66 rfl (lv_at hl 0 rfl) ?_
      obtain ⟨r22, S23, h24, h⟩ := g_bd h
      refine zx_cv (zx_runV (q := (RX1, TX1, 16)) (As := [.int r19, .int (4 : Int32), .int x6]) (rest := []) F hW (c_X1_demand l D a cs r19 (4 : Int32) x6  S20 r22 S23 h24) Y_X1_demand wi_X1_demand ws_X1_demand wm_X1_124 ⟨rfl, rfl, Nat.le_of_ble_eq_true rfl, Nat.le_of_ble_eq_true rfl, Nat.le_of_ble_eq_true rfl, Nat.le_of_ble_eq_true rfl⟩ (by decide) zx_E7 rfl rfl hl.1 rfl (Nat.le_of_ble_eq_true rfl) dX1_readStates_67) hS (fun H locs hW hS => ?_)
      obtain ⟨x25, ex25, h⟩ := g_pin h
      refine lv_iinc (v := x25) (lv' := [(1, .int x25), (2, .int x6), (0, .ref (a 7))]) hx hb dX1_readStates_70 hl (k := 2) rfl (by rw [ex25]; rfl) (by decide) rfl (fun ls hl => ?_)
      refine lv_goto (tgt := 10) hx hb dX1_readStates_73 (by decide) ?_
      exact ih x25 S23 h _ _ _ hW hS (lv_sub hl [2, 0] rfl)
set_option maxHeartbeats 4000000 in
set_option maxRecDepth 100000 in
theorem c_X1_readStates (l : Launch) (D : va_G) (a : Nat → Nat) (cs : zx_C) (fu : Nat)   (S : St) (r9 : Int32) (S9 : St) (h : f_X1_readStates fu  S = some (r9, S9)) : Met l yX1_readStates (Cond.code yX1_readStates cX1_readStates 3 none :: zx_tb) ({ frames := 3, cells := 0, slots := 0, locals := 66 }) (zx_P D a cs [.ref (a 7)] S) (zx_Qv D a cs S9) 0 0 (zx_A a) := by
  refine zx_met (own := RX1) (by decide) (Nat.le_of_ble_eq_true rfl) rfl ?_
  intro p e s m below meth c ls F hr hW hS hl
  have hl : lv_has ls 3 [(0, .ref (a 7))] := hl
  obtain ⟨⟨hx, hb, hml, hown, hts⟩, hlk, hK, hJ, hN⟩ := id F
  unfold f_X1_readStates at h
  refine lv_aload_n hx hb dX1_readStates_0 rfl (lv_at hl 0 rfl) ?_
  refine lv_aload_n hx hb dX1_readStates_1 rfl (lv_at hl 0 rfl) ?_
  refine zx_get (C := RX1) (T := TX1) (N := 16) F hW wu_X1 (by decide) zx_E7 rfl 8 (by decide) wf_X1_51 rfl dX1_readStates_2 ?_
  obtain ⟨S1, eS1, h⟩ := g_pin h
  refine zx_putv (C := RX1) (T := TX1) (N := 16) F hW hS wu_X1 tyX1_ok nmX1 (by decide) zx_E7 rfl 12 (by decide) wf_X1_63 rfl (S 7 8) rfl rfl (Nat.le_of_ble_eq_true rfl) rfl dX1_readStates_5 (fun H locs hW hS => ?_)
  have hW : zx_W D a cs S1 H := by rw [eS1]; exact hW
  refine lv_iconst (v := 0) hx hb dX1_readStates_8 (by decide) ?_
  refine lv_istore_n (lv' := [(1, .int (0 : Int32)), (0, .ref (a 7))]) hx hb dX1_readStates_9 rfl hl (by decide) rfl (fun ls hl => ?_)
  exact k_X1_readStates_L10  F hr   fu (0 : Int32) S1 h _ _ _ hW hS (lv_sub hl [1, 0] rfl)

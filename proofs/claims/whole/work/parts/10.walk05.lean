theorem Y_X8_left : zx_Y yX8_left cX8_left 5 (some (.int)) 4 := ⟨wc_X8_left, wn_X8, by decide, by decide, by decide +kernel⟩
set_option maxHeartbeats 4000000 in
set_option maxRecDepth 100000 in
theorem c_X8_left (l : Launch) (D : va_G) (a : Nat → Nat) (cs : zx_C) (fu : Nat) (p0 : Int32) (p1 : Int32) (p2 : Int32) (p3 : Int32)  (S : St) (r9 : Int32) (S9 : St) (h : f_X8_left fu p0 p1 p2 p3 S = some (r9, S9)) : Met l yX8_left (Cond.code yX8_left cX8_left 5 (some (.int)) :: zx_tb) ({ frames := 6, cells := 0, slots := 0, locals := 141 }) (zx_P D a cs [.ref (a 0), .int p0, .int p1, .int p2, .int p3] S) (zx_Qi D a cs r9 S9) 0 0 (zx_A a) := by
  refine zx_met (own := RX8) (by decide) (Nat.le_of_ble_eq_true rfl) rfl ?_
  intro p e s m below meth c ls F hr hW hS hl
  have hl : lv_has ls 5 [(0, .ref (a 0)), (1, .int p0), (2, .int p1), (3, .int p2), (4, .int p3)] := hl
  obtain ⟨⟨hx, hb, hml, hown, hts⟩, hlk, hK, hJ, hN⟩ := id F
  unfold f_X8_left at h
  refine lv_aload_n hx hb dX8_left_0 rfl (lv_at hl 0 rfl) ?_
  refine lv_iload_n hx hb dX8_left_1 rfl (lv_at hl 1 rfl) ?_
  refine lv_iload_n hx hb dX8_left_2 rfl (lv_at hl 2 rfl) ?_
  refine lv_iload_n hx hb dX8_left_3 rfl (lv_at hl 3 rfl) ?_
  refine lv_iload hx hb dX8_left_4 (lv_at hl 4 rfl) ?_
  obtain ⟨r1, S2, h3, h⟩ := g_bd h
  refine zx_ci (zx_runV (q := (RX8, TX8, 11)) (As := [.int p0, .int p1, .int p2, .int p3]) (rest := []) F hW (c_X8_prepareForState l D a cs fu p0 p1 p2 p3  S r1 S2 h3) Y_X8_prepareForState wi_X8_prepareForState ws_X8_prepareForState wm_X8_189 ⟨rfl, rfl, Nat.le_of_ble_eq_true rfl, Nat.le_of_ble_eq_true rfl, Nat.le_of_ble_eq_true rfl, Nat.le_of_ble_eq_true rfl⟩ (by decide) zx_E0 rfl rfl hl.1 rfl (Nat.le_of_ble_eq_true rfl) dX8_left_6) hS (fun H locs hW hS => ?_)
  refine lv_if_eq (tgt := 24) hx hb dX8_left_9 (by decide) (fun c4 => ?_) (fun c4 => ?_)
  · have h := g_t c4 h
    refine lv_iconst (v := -1) hx hb dX8_left_24 (by decide) ?_
    exact zx_ri F hr hW hS h dX8_left_25
  · have h := g_f c4 h
    refine lv_aload_n hx hb dX8_left_12 rfl (lv_at hl 0 rfl) ?_
    refine zx_get (C := RX8) (T := TX8) (N := 11) F hW wu_X8 (by decide) zx_E0 rfl 5 (by decide) wf_X8_40 rfl dX8_left_13 ?_
    refine lv_iload hx hb dX8_left_16 (lv_at hl 4 rfl) ?_
    obtain ⟨r5, S6, h7, h⟩ := g_bd h
    refine zx_ci (zx_runV (q := (RX0, TX0, 8)) (As := [.int p3]) (rest := []) F hW (c_X0_behindSymbol l D a cs p3  S2 r5 S6 h7) Y_X0_behindSymbol wi_X0_behindSymbol ws_X0_behindSymbol wm_X8_209 ⟨rfl, rfl, Nat.le_of_ble_eq_true rfl, Nat.le_of_ble_eq_true rfl, Nat.le_of_ble_eq_true rfl, Nat.le_of_ble_eq_true rfl⟩ (by decide) zx_E8 rfl rfl hl.1 rfl (Nat.le_of_ble_eq_true rfl) dX8_left_18) hS (fun H locs hW hS => ?_)
    refine lv_goto (tgt := 25) hx hb dX8_left_21 (by decide) ?_
    exact zx_ri F hr hW hS h dX8_left_25
theorem Y_X8_log : zx_Y yX8_log cX8_log 3 (some (.int)) 1 := ⟨wc_X8_log, wn_X8, by decide, by decide, by decide +kernel⟩
set_option maxHeartbeats 4000000 in
set_option maxRecDepth 100000 in
theorem c_X8_log (l : Launch) (D : va_G) (a : Nat → Nat) (cs : zx_C) (p0 : Int32)  (S : St) (r9 : Int32) (S9 : St) (h : f_X8_log p0 S = some (r9, S9)) : Met l yX8_log (Cond.code yX8_log cX8_log 3 (some (.int)) :: zx_tb) ({ frames := 2, cells := 0, slots := 0, locals := 42 }) (zx_P D a cs [.ref (a 0), .int p0] S) (zx_Qi D a cs r9 S9) 0 0 (zx_A a) := by
  refine zx_met (own := RX8) (by decide) (Nat.le_of_ble_eq_true rfl) rfl ?_
  intro p e s m below meth c ls F hr hW hS hl
  have hl : lv_has ls 3 [(0, .ref (a 0)), (1, .int p0)] := hl
  obtain ⟨⟨hx, hb, hml, hown, hts⟩, hlk, hK, hJ, hN⟩ := id F
  unfold f_X8_log at h
  refine lv_aload_n hx hb dX8_log_0 rfl (lv_at hl 0 rfl) ?_
  refine lv_iload_n hx hb dX8_log_1 rfl (lv_at hl 1 rfl) ?_
  obtain ⟨r1, S2, h3, h⟩ := g_bd h
  refine zx_ca (zx_runV (q := (RX8, TX8, 11)) (As := [.int p0]) (rest := []) F hW (c_X8_tableOrNull l D a cs p0  S r1 S2 h3) Y_X8_tableOrNull wi_X8_tableOrNull ws_X8_tableOrNull wm_X8_103 ⟨rfl, rfl, Nat.le_of_ble_eq_true rfl, Nat.le_of_ble_eq_true rfl, Nat.le_of_ble_eq_true rfl, Nat.le_of_ble_eq_true rfl⟩ (by decide) zx_E0 rfl rfl hl.1 rfl (Nat.le_of_ble_eq_true rfl) dX8_log_2) hS (fun H locs hW hS => ?_)
  by_cases c4 : r1 = 0
  · have h := g_t c4 h
    rw [c4, zx_rfo_0]
    refine lv_astore_nN (lv' := [(2, .null), (0, .ref (a 0)), (1, .int p0)]) hx hb dX8_log_5 rfl hl (by decide) rfl (fun ls hl => ?_)
    refine lv_aload_nN hx hb dX8_log_6 rfl (lv_at hl 0 rfl) ?_
    refine lv_ifnonnullN hx hb dX8_log_7 ?_
    refine lv_iconst (v := -1) hx hb dX8_log_10 (by decide) ?_
    refine lv_goto (tgt := 18) hx hb dX8_log_11 (by decide) ?_
    exact zx_ri F hr hW hS h dX8_log_18
  · have h := g_f c4 h
    obtain ⟨kt5, ekt5, h⟩ := g_pin h
    obtain ⟨hk6, h⟩ := g_ok h
    rw [zx_rfo_tab (by rw [← ekt5]; exact hk6), ← ekt5]
    refine lv_astore_n (lv' := [(2, .ref (a kt5)), (0, .ref (a 0)), (1, .int p0)]) hx hb dX8_log_5 rfl hl (by decide) rfl (fun ls hl => ?_)
    refine lv_aload_n hx hb dX8_log_6 rfl (lv_at hl 0 rfl) ?_
    refine lv_ifnonnull (tgt := 14) hx hb dX8_log_7 (by decide) ?_
    refine lv_aload_n hx hb dX8_log_14 rfl (lv_at hl 0 rfl) ?_
    refine zx_get (C := RX6) (T := TX6) (N := 2) F hW wu_X6 (zx_tab_l hk6).1 (zx_tab_E hk6) rfl 1 (by decide) wf_X8_107 rfl dX8_log_15 ?_
    exact zx_ri F hr hW hS h dX8_log_18
theorem Y_X8_look : zx_Y yX8_look cX8_look 2 (some (.int)) 1 := ⟨wc_X8_look, wn_X8, by decide, by decide, by decide +kernel⟩
set_option maxHeartbeats 4000000 in
set_option maxRecDepth 100000 in
theorem c_X8_look (l : Launch) (D : va_G) (a : Nat → Nat) (cs : zx_C) (p0 : Int32)  (S : St) (r9 : Int32) (S9 : St) (h : f_X8_look p0 S = some (r9, S9)) : Met l yX8_look (Cond.code yX8_look cX8_look 2 (some (.int)) :: zx_tb) ({ frames := 1, cells := 0, slots := 0, locals := 21 }) (zx_P D a cs [.ref (a 0), .int p0] S) (zx_Qi D a cs r9 S9) 0 0 (zx_A a) := by
  refine zx_met (own := RX8) (by decide) (Nat.le_of_ble_eq_true rfl) rfl ?_
  intro p e s m below meth c ls F hr hW hS hl
  have hl : lv_has ls 2 [(0, .ref (a 0)), (1, .int p0)] := hl
  obtain ⟨⟨hx, hb, hml, hown, hts⟩, hlk, hK, hJ, hN⟩ := id F
  unfold f_X8_look at h
  refine lv_aload_n hx hb dX8_look_0 rfl (lv_at hl 0 rfl) ?_
  refine zx_get (C := RX8) (T := TX8) (N := 11) F hW wu_X8 (by decide) zx_E0 rfl 7 (by decide) wf_X8_51 rfl dX8_look_1 ?_
  refine lv_iload_n hx hb dX8_look_4 rfl (lv_at hl 1 rfl) ?_
  obtain ⟨r1, S2, h3, h⟩ := g_bd h
  refine zx_ci (zx_runV (q := (RX7, TX7, 1)) (As := [.int p0]) (rest := []) F hW (c_X7_figure l D a cs 39 p0 (by decide) S r1 S2 h3) Y_X7_figure wi_X7_figure ws_X7_figure wm_X8_212 ⟨rfl, rfl, Nat.le_of_ble_eq_true rfl, Nat.le_of_ble_eq_true rfl, Nat.le_of_ble_eq_true rfl, Nat.le_of_ble_eq_true rfl⟩ (by decide) zx_E39 rfl rfl hl.1 rfl (Nat.le_of_ble_eq_true rfl) dX8_look_5) hS (fun H locs hW hS => ?_)
  exact zx_ri F hr hW hS h dX8_look_8
theorem Y_X8_pack : zx_Y yX8_pack cX8_pack 6 (some (.int)) 3 := ⟨wc_X8_pack, wn_X8, by decide, by decide, by decide +kernel⟩
set_option maxHeartbeats 4000000 in
set_option maxRecDepth 100000 in
theorem c_X8_pack (l : Launch) (D : va_G) (a : Nat → Nat) (cs : zx_C) (fu : Nat) (p0 : Int32) (p1 : Int32) (p2 : Int32)  (S : St) (r9 : Int32) (S9 : St) (h : f_X8_pack fu p0 p1 p2 S = some (r9, S9)) : Met l yX8_pack (Cond.code yX8_pack cX8_pack 6 (some (.int)) :: zx_tb) ({ frames := 5, cells := 0, slots := 0, locals := 116 }) (zx_P D a cs [.ref (a 0), .int p0, .int p1, .int p2] S) (zx_Qi D a cs r9 S9) 0 0 (zx_A a) := by
  refine zx_met (own := RX8) (by decide) (Nat.le_of_ble_eq_true rfl) rfl ?_
  intro p e s m below meth c ls F hr hW hS hl
  have hl : lv_has ls 6 [(0, .ref (a 0)), (1, .int p0), (2, .int p1), (3, .int p2)] := hl
  obtain ⟨⟨hx, hb, hml, hown, hts⟩, hlk, hK, hJ, hN⟩ := id F
  unfold f_X8_pack at h
  refine lv_aload_n hx hb dX8_pack_0 rfl (lv_at hl 0 rfl) ?_
  refine lv_iload_n hx hb dX8_pack_1 rfl (lv_at hl 1 rfl) ?_
  obtain ⟨r1, S2, h3, h⟩ := g_bd h
  refine zx_ca (zx_runV (q := (RX8, TX8, 11)) (As := [.int p0]) (rest := []) F hW (c_X8_tableOrNull l D a cs p0  S r1 S2 h3) Y_X8_tableOrNull wi_X8_tableOrNull ws_X8_tableOrNull wm_X8_103 ⟨rfl, rfl, Nat.le_of_ble_eq_true rfl, Nat.le_of_ble_eq_true rfl, Nat.le_of_ble_eq_true rfl, Nat.le_of_ble_eq_true rfl⟩ (by decide) zx_E0 rfl rfl hl.1 rfl (Nat.le_of_ble_eq_true rfl) dX8_pack_2) hS (fun H locs hW hS => ?_)
  by_cases c4 : r1 = 0
  · have h := g_t c4 h
    rw [c4, zx_rfo_0]
    refine lv_astoreN (lv' := [(4, .null), (0, .ref (a 0)), (1, .int p0), (2, .int p1), (3, .int p2)]) hx hb dX8_pack_5 hl (by decide) rfl (fun ls hl => ?_)
    refine lv_aloadN hx hb dX8_pack_7 (lv_at hl 0 rfl) ?_
    refine lv_ifnullN (tgt := 20) hx hb dX8_pack_9 (by decide) ?_
    refine lv_iconst (v := -1) hx hb dX8_pack_20 (by decide) ?_
    exact zx_ri F hr hW hS h dX8_pack_21
  · have h := g_f c4 h
    obtain ⟨kt5, ekt5, h⟩ := g_pin h
    obtain ⟨hk6, h⟩ := g_ok h
    rw [zx_rfo_tab (by rw [← ekt5]; exact hk6), ← ekt5]
    refine lv_astore (lv' := [(4, .ref (a kt5)), (0, .ref (a 0)), (1, .int p0), (2, .int p1), (3, .int p2)]) hx hb dX8_pack_5 hl (by decide) rfl (fun ls hl => ?_)
    refine lv_aload hx hb dX8_pack_7 (lv_at hl 0 rfl) ?_
    refine lv_ifnull hx hb dX8_pack_9 ?_
    refine lv_iload_n hx hb dX8_pack_12 rfl (lv_at hl 3 rfl) ?_
    refine lv_iload_n hx hb dX8_pack_13 rfl (lv_at hl 4 rfl) ?_
    obtain ⟨r7, S8, h9, h⟩ := g_bd h
    refine zx_ci (zx_runS (As := [.int p1, .int p2]) (rest := []) F hW (c_X8_isCoding l D a cs p1 p2  S2 r7 S8 h9) Y_X8_isCoding wt_X8_isCoding wm_X8_130 ⟨rfl, rfl, Nat.le_of_ble_eq_true rfl, Nat.le_of_ble_eq_true rfl, Nat.le_of_ble_eq_true rfl, Nat.le_of_ble_eq_true rfl⟩ rfl hl.1 rfl (Nat.le_of_ble_eq_true rfl) dX8_pack_14) hS (fun H locs hW hS => ?_)
    refine lv_if_ne (tgt := 22) hx hb dX8_pack_17 (by decide) (fun c10 => ?_) (fun c10 => ?_)
    · have h := g_f c10 h
      refine lv_aload_n hx hb dX8_pack_22 rfl (lv_at hl 1 rfl) ?_
      refine lv_aload hx hb dX8_pack_23 (lv_at hl 0 rfl) ?_
      obtain ⟨r11, S12, h13, h⟩ := g_bd h
      refine zx_ci (zx_runV (q := (RX8, TX8, 11)) (As := [.ref (a kt5)]) (rest := []) F hW (c_X8_refusalOfTape l D a cs fu kt5 hk6 S8 r11 S12 h13) Y_X8_refusalOfTape wi_X8_refusalOfTape ws_X8_refusalOfTape wm_X8_134 ⟨rfl, rfl, Nat.le_of_ble_eq_true rfl, Nat.le_of_ble_eq_true rfl, Nat.le_of_ble_eq_true rfl, Nat.le_of_ble_eq_true rfl⟩ (by decide) zx_E0 rfl rfl hl.1 rfl (Nat.le_of_ble_eq_true rfl) dX8_pack_25) hS (fun H locs hW hS => ?_)
      refine lv_istore (lv' := [(5, .int r11), (4, .ref (a kt5)), (0, .ref (a 0)), (1, .int p0), (2, .int p1), (3, .int p2)]) hx hb dX8_pack_28 hl (by decide) rfl (fun ls hl => ?_)
      refine lv_iload hx hb dX8_pack_30 (lv_at hl 0 rfl) ?_
      refine lv_if_eq (tgt := 38) hx hb dX8_pack_32 (by decide) (fun c14 => ?_) (fun c14 => ?_)
      · have h := g_t c14 h
        refine lv_aload_n hx hb dX8_pack_38 rfl (lv_at hl 2 rfl) ?_
        refine zx_get (C := RX8) (T := TX8) (N := 11) F hW wu_X8 (by decide) zx_E0 rfl 5 (by decide) wf_X8_40 rfl dX8_pack_39 ?_
        refine lv_aload hx hb dX8_pack_42 (lv_at hl 1 rfl) ?_
        refine lv_iload_n hx hb dX8_pack_44 rfl (lv_at hl 4 rfl) ?_
        refine lv_iload_n hx hb dX8_pack_45 rfl (lv_at hl 5 rfl) ?_
        obtain ⟨r15, S16, h17, h⟩ := g_bd h
        refine zx_cv (zx_runV (q := (RX0, TX0, 8)) (As := [.ref (a kt5), .int p1, .int p2]) (rest := []) F hW (c_X0_prepare l D a cs fu kt5 p1 p2 hk6 S12 r15 S16 h17) Y_X0_prepare wi_X0_prepare ws_X0_prepare wm_X8_138 ⟨rfl, rfl, Nat.le_of_ble_eq_true rfl, Nat.le_of_ble_eq_true rfl, Nat.le_of_ble_eq_true rfl, Nat.le_of_ble_eq_true rfl⟩ (by decide) zx_E8 rfl rfl hl.1 rfl (Nat.le_of_ble_eq_true rfl) dX8_pack_46) hS (fun H locs hW hS => ?_)
        refine lv_aload_n hx hb dX8_pack_49 rfl (lv_at hl 2 rfl) ?_
        refine zx_get (C := RX8) (T := TX8) (N := 11) F hW wu_X8 (by decide) zx_E0 rfl 6 (by decide) wf_X8_44 rfl dX8_pack_50 ?_
        refine lv_aload_n hx hb dX8_pack_53 rfl (lv_at hl 2 rfl) ?_
        refine zx_get (C := RX8) (T := TX8) (N := 11) F hW wu_X8 (by decide) zx_E0 rfl 5 (by decide) wf_X8_40 rfl dX8_pack_54 ?_
        refine lv_aload_n hx hb dX8_pack_57 rfl (lv_at hl 2 rfl) ?_
        refine zx_get (C := RX8) (T := TX8) (N := 11) F hW wu_X8 (by decide) zx_E0 rfl 0 (by decide) wf_X8_12 rfl dX8_pack_58 ?_
        obtain ⟨r18, S19, h20, h⟩ := g_bd h
        refine zx_cv (zx_runV (q := (RX2, TX2, 3)) (As := [.ref (a 8), .ref (a 1)]) (rest := []) F hW (c_X2_codeMessage l D a cs fu 1 (by decide) S16 r18 S19 h20) Y_X2_codeMessage wi_X2_codeMessage ws_X2_codeMessage wm_X8_142 ⟨rfl, rfl, Nat.le_of_ble_eq_true rfl, Nat.le_of_ble_eq_true rfl, Nat.le_of_ble_eq_true rfl, Nat.le_of_ble_eq_true rfl⟩ (by decide) zx_E34 rfl rfl hl.1 rfl (Nat.le_of_ble_eq_true rfl) dX8_pack_61) hS (fun H locs hW hS => ?_)
        refine lv_aload_n hx hb dX8_pack_64 rfl (lv_at hl 2 rfl) ?_
        refine zx_get (C := RX8) (T := TX8) (N := 11) F hW wu_X8 (by decide) zx_E0 rfl 6 (by decide) wf_X8_44 rfl dX8_pack_65 ?_
        refine lv_aload_n hx hb dX8_pack_68 rfl (lv_at hl 2 rfl) ?_
        refine zx_get (C := RX8) (T := TX8) (N := 11) F hW wu_X8 (by decide) zx_E0 rfl 5 (by decide) wf_X8_40 rfl dX8_pack_69 ?_
        refine lv_aload hx hb dX8_pack_72 (lv_at hl 1 rfl) ?_
        refine lv_aload_n hx hb dX8_pack_74 rfl (lv_at hl 2 rfl) ?_
        refine zx_get (C := RX8) (T := TX8) (N := 11) F hW wu_X8 (by decide) zx_E0 rfl 1 (by decide) wf_X8_16 rfl dX8_pack_75 ?_
        obtain ⟨r21, S22, h23, h⟩ := g_bd h
        refine zx_cv (zx_runV (q := (RX2, TX2, 3)) (As := [.ref (a 8), .ref (a kt5), .ref (a 3)]) (rest := []) F hW (c_X2_writePacket l D a cs fu kt5 3 hk6 (by decide) S19 r21 S22 h23) Y_X2_writePacket wi_X2_writePacket ws_X2_writePacket wm_X8_146 ⟨rfl, rfl, Nat.le_of_ble_eq_true rfl, Nat.le_of_ble_eq_true rfl, Nat.le_of_ble_eq_true rfl, Nat.le_of_ble_eq_true rfl⟩ (by decide) zx_E34 rfl rfl hl.1 rfl (Nat.le_of_ble_eq_true rfl) dX8_pack_78) hS (fun H locs hW hS => ?_)
        refine lv_aload_n hx hb dX8_pack_81 rfl (lv_at hl 2 rfl) ?_
        refine zx_get (C := RX8) (T := TX8) (N := 11) F hW wu_X8 (by decide) zx_E0 rfl 7 (by decide) wf_X8_51 rfl dX8_pack_82 ?_
        refine lv_aload_n hx hb dX8_pack_85 rfl (lv_at hl 2 rfl) ?_
        refine zx_get (C := RX8) (T := TX8) (N := 11) F hW wu_X8 (by decide) zx_E0 rfl 6 (by decide) wf_X8_44 rfl dX8_pack_86 ?_
        refine zx_get (C := RX2) (T := TX2) (N := 3) F hW wu_X2 (by decide) zx_E34 rfl 0 (by decide) wf_X8_150 rfl dX8_pack_89 ?_
        obtain ⟨r24, S25, h26, h⟩ := g_bd h
        refine zx_cv (zx_runV (q := (RX7, TX7, 1)) (As := [.ref (a 35)]) (rest := []) F hW (c_X7_copy l D a cs 39 35 (by decide) (by decide) S22 r24 S25 h26) Y_X7_copy wi_X7_copy ws_X7_copy wm_X8_151 ⟨rfl, rfl, Nat.le_of_ble_eq_true rfl, Nat.le_of_ble_eq_true rfl, Nat.le_of_ble_eq_true rfl, Nat.le_of_ble_eq_true rfl⟩ (by decide) zx_E39 rfl rfl hl.1 rfl (Nat.le_of_ble_eq_true rfl) dX8_pack_92) hS (fun H locs hW hS => ?_)
        refine lv_aload_n hx hb dX8_pack_95 rfl (lv_at hl 2 rfl) ?_
        refine zx_get (C := RX8) (T := TX8) (N := 11) F hW wu_X8 (by decide) zx_E0 rfl 1 (by decide) wf_X8_16 rfl dX8_pack_96 ?_
        refine zx_get (C := RX4) (T := TX4) (N := 2) F hW wu_X4 (by decide) zx_E3 rfl 1 (by decide) wf_X8_70 rfl dX8_pack_99 ?_
        exact zx_ri F hr hW hS h dX8_pack_102
      · have h := g_f c14 h
        refine lv_iload hx hb dX8_pack_35 (lv_at hl 0 rfl) ?_
        exact zx_ri F hr hW hS h dX8_pack_37
    · have h := g_t c10 h
      refine lv_iconst (v := -1) hx hb dX8_pack_20 (by decide) ?_
      exact zx_ri F hr hW hS h dX8_pack_21
theorem Y_X8_place : zx_Y yX8_place cX8_place 4 (some (.int)) 3 := ⟨wc_X8_place, wn_X8, by decide, by decide, by decide +kernel⟩
set_option maxHeartbeats 4000000 in
set_option maxRecDepth 100000 in
theorem c_X8_place (l : Launch) (D : va_G) (a : Nat → Nat) (cs : zx_C) (fu : Nat) (p0 : Int32) (p1 : Int32) (p2 : Int32)  (S : St) (r9 : Int32) (S9 : St) (h : f_X8_place fu p0 p1 p2 S = some (r9, S9)) : Met l yX8_place (Cond.code yX8_place cX8_place 4 (some (.int)) :: zx_tb) ({ frames := 5, cells := 0, slots := 0, locals := 117 }) (zx_P D a cs [.ref (a 0), .int p0, .int p1, .int p2] S) (zx_Qi D a cs r9 S9) 0 0 (zx_A a) := by
  refine zx_met (own := RX8) (by decide) (Nat.le_of_ble_eq_true rfl) rfl ?_
  intro p e s m below meth c ls F hr hW hS hl
  have hl : lv_has ls 4 [(0, .ref (a 0)), (1, .int p0), (2, .int p1), (3, .int p2)] := hl
  obtain ⟨⟨hx, hb, hml, hown, hts⟩, hlk, hK, hJ, hN⟩ := id F
  unfold f_X8_place at h
  refine lv_aload_n hx hb dX8_place_0 rfl (lv_at hl 0 rfl) ?_
  refine lv_iload_n hx hb dX8_place_1 rfl (lv_at hl 1 rfl) ?_
  refine lv_iload_n hx hb dX8_place_2 rfl (lv_at hl 2 rfl) ?_
  refine lv_iload_n hx hb dX8_place_3 rfl (lv_at hl 3 rfl) ?_
  obtain ⟨r1, S2, h3, h⟩ := g_bd h
  refine zx_ci (zx_runV (q := (RX8, TX8, 11)) (As := [.int p0, .int p1, .int p2]) (rest := []) F hW (c_X8_layForPlace l D a cs fu p0 p1 p2  S r1 S2 h3) Y_X8_layForPlace wi_X8_layForPlace ws_X8_layForPlace wm_X8_120 ⟨rfl, rfl, Nat.le_of_ble_eq_true rfl, Nat.le_of_ble_eq_true rfl, Nat.le_of_ble_eq_true rfl, Nat.le_of_ble_eq_true rfl⟩ (by decide) zx_E0 rfl rfl hl.1 rfl (Nat.le_of_ble_eq_true rfl) dX8_place_4) hS (fun H locs hW hS => ?_)
  refine lv_if_eq (tgt := 24) hx hb dX8_place_7 (by decide) (fun c4 => ?_) (fun c4 => ?_)
  · have h := g_t c4 h
    refine lv_iconst (v := -1) hx hb dX8_place_24 (by decide) ?_
    exact zx_ri F hr hW hS h dX8_place_25
  · have h := g_f c4 h
    refine lv_aload_n hx hb dX8_place_10 rfl (lv_at hl 0 rfl) ?_
    refine zx_get (C := RX8) (T := TX8) (N := 11) F hW wu_X8 (by decide) zx_E0 rfl 5 (by decide) wf_X8_40 rfl dX8_place_11 ?_
    refine zx_get (C := RX0) (T := TX0) (N := 8) F hW wu_X0 (by decide) zx_E8 rfl 0 (by decide) wf_X8_92 rfl dX8_place_14 ?_
    refine lv_iload_n hx hb dX8_place_17 rfl (lv_at hl 3 rfl) ?_
    obtain ⟨r5, S6, h7, h⟩ := g_bd h
    refine zx_ci (zx_runV (q := (RX5, TX5, 10)) (As := [.int p2]) (rest := []) F hW (c_X5_symbolAt l D a cs p2  S2 r5 S6 h7) Y_X5_symbolAt wi_X5_symbolAt ws_X5_symbolAt wm_X8_124 ⟨rfl, rfl, Nat.le_of_ble_eq_true rfl, Nat.le_of_ble_eq_true rfl, Nat.le_of_ble_eq_true rfl, Nat.le_of_ble_eq_true rfl⟩ (by decide) zx_E9 rfl rfl hl.1 rfl (Nat.le_of_ble_eq_true rfl) dX8_place_18) hS (fun H locs hW hS => ?_)
    refine lv_goto (tgt := 25) hx hb dX8_place_21 (by decide) ?_
    exact zx_ri F hr hW hS h dX8_place_25
theorem Y_X8_rank : zx_Y yX8_rank cX8_rank 4 (some (.int)) 3 := ⟨wc_X8_rank, wn_X8, by decide, by decide, by decide +kernel⟩
set_option maxHeartbeats 4000000 in
set_option maxRecDepth 100000 in
theorem c_X8_rank (l : Launch) (D : va_G) (a : Nat → Nat) (cs : zx_C) (fu : Nat) (p0 : Int32) (p1 : Int32) (p2 : Int32)  (S : St) (r9 : Int32) (S9 : St) (h : f_X8_rank fu p0 p1 p2 S = some (r9, S9)) : Met l yX8_rank (Cond.code yX8_rank cX8_rank 4 (some (.int)) :: zx_tb) ({ frames := 5, cells := 0, slots := 0, locals := 117 }) (zx_P D a cs [.ref (a 0), .int p0, .int p1, .int p2] S) (zx_Qi D a cs r9 S9) 0 0 (zx_A a) := by
  refine zx_met (own := RX8) (by decide) (Nat.le_of_ble_eq_true rfl) rfl ?_
  intro p e s m below meth c ls F hr hW hS hl
  have hl : lv_has ls 4 [(0, .ref (a 0)), (1, .int p0), (2, .int p1), (3, .int p2)] := hl
  obtain ⟨⟨hx, hb, hml, hown, hts⟩, hlk, hK, hJ, hN⟩ := id F
  unfold f_X8_rank at h
  refine lv_aload_n hx hb dX8_rank_0 rfl (lv_at hl 0 rfl) ?_
  refine lv_iload_n hx hb dX8_rank_1 rfl (lv_at hl 1 rfl) ?_
  refine lv_iload_n hx hb dX8_rank_2 rfl (lv_at hl 2 rfl) ?_
  refine lv_iload_n hx hb dX8_rank_3 rfl (lv_at hl 3 rfl) ?_
  obtain ⟨r1, S2, h3, h⟩ := g_bd h
  refine zx_ci (zx_runV (q := (RX8, TX8, 11)) (As := [.int p0, .int p1, .int p2]) (rest := []) F hW (c_X8_layForPlace l D a cs fu p0 p1 p2  S r1 S2 h3) Y_X8_layForPlace wi_X8_layForPlace ws_X8_layForPlace wm_X8_120 ⟨rfl, rfl, Nat.le_of_ble_eq_true rfl, Nat.le_of_ble_eq_true rfl, Nat.le_of_ble_eq_true rfl, Nat.le_of_ble_eq_true rfl⟩ (by decide) zx_E0 rfl rfl hl.1 rfl (Nat.le_of_ble_eq_true rfl) dX8_rank_4) hS (fun H locs hW hS => ?_)
  refine lv_if_eq (tgt := 24) hx hb dX8_rank_7 (by decide) (fun c4 => ?_) (fun c4 => ?_)
  · have h := g_t c4 h
    refine lv_iconst (v := -1) hx hb dX8_rank_24 (by decide) ?_
    exact zx_ri F hr hW hS h dX8_rank_25
  · have h := g_f c4 h
    refine lv_aload_n hx hb dX8_rank_10 rfl (lv_at hl 0 rfl) ?_
    refine zx_get (C := RX8) (T := TX8) (N := 11) F hW wu_X8 (by decide) zx_E0 rfl 5 (by decide) wf_X8_40 rfl dX8_rank_11 ?_
    refine zx_get (C := RX0) (T := TX0) (N := 8) F hW wu_X0 (by decide) zx_E8 rfl 0 (by decide) wf_X8_92 rfl dX8_rank_14 ?_
    refine lv_iload_n hx hb dX8_rank_17 rfl (lv_at hl 3 rfl) ?_
    obtain ⟨r5, S6, h7, h⟩ := g_bd h
    refine zx_ci (zx_runV (q := (RX5, TX5, 10)) (As := [.int p2]) (rest := []) F hW (c_X5_rankAt l D a cs p2  S2 r5 S6 h7) Y_X5_rankAt wi_X5_rankAt ws_X5_rankAt wm_X8_127 ⟨rfl, rfl, Nat.le_of_ble_eq_true rfl, Nat.le_of_ble_eq_true rfl, Nat.le_of_ble_eq_true rfl, Nat.le_of_ble_eq_true rfl⟩ (by decide) zx_E9 rfl rfl hl.1 rfl (Nat.le_of_ble_eq_true rfl) dX8_rank_18) hS (fun H locs hW hS => ?_)
    refine lv_goto (tgt := 25) hx hb dX8_rank_21 (by decide) ?_
    exact zx_ri F hr hW hS h dX8_rank_25
theorem Y_X8_share : zx_Y yX8_share cX8_share 4 (some (.int)) 2 := ⟨wc_X8_share, wn_X8, by decide, by decide, by decide +kernel⟩
set_option maxHeartbeats 4000000 in
set_option maxRecDepth 100000 in
theorem c_X8_share (l : Launch) (D : va_G) (a : Nat → Nat) (cs : zx_C) (p0 : Int32) (p1 : Int32)  (S : St) (r9 : Int32) (S9 : St) (h : f_X8_share p0 p1 S = some (r9, S9)) : Met l yX8_share (Cond.code yX8_share cX8_share 4 (some (.int)) :: zx_tb) ({ frames := 2, cells := 0, slots := 0, locals := 42 }) (zx_P D a cs [.ref (a 0), .int p0, .int p1] S) (zx_Qi D a cs r9 S9) 0 0 (zx_A a) := by
  refine zx_met (own := RX8) (by decide) (Nat.le_of_ble_eq_true rfl) rfl ?_
  intro p e s m below meth c ls F hr hW hS hl
  have hl : lv_has ls 4 [(0, .ref (a 0)), (1, .int p0), (2, .int p1)] := hl
  obtain ⟨⟨hx, hb, hml, hown, hts⟩, hlk, hK, hJ, hN⟩ := id F
  unfold f_X8_share at h
  refine lv_aload_n hx hb dX8_share_0 rfl (lv_at hl 0 rfl) ?_
  refine lv_iload_n hx hb dX8_share_1 rfl (lv_at hl 1 rfl) ?_
  obtain ⟨r1, S2, h3, h⟩ := g_bd h
  refine zx_ca (zx_runV (q := (RX8, TX8, 11)) (As := [.int p0]) (rest := []) F hW (c_X8_tableOrNull l D a cs p0  S r1 S2 h3) Y_X8_tableOrNull wi_X8_tableOrNull ws_X8_tableOrNull wm_X8_103 ⟨rfl, rfl, Nat.le_of_ble_eq_true rfl, Nat.le_of_ble_eq_true rfl, Nat.le_of_ble_eq_true rfl, Nat.le_of_ble_eq_true rfl⟩ (by decide) zx_E0 rfl rfl hl.1 rfl (Nat.le_of_ble_eq_true rfl) dX8_share_2) hS (fun H locs hW hS => ?_)
  by_cases c4 : r1 = 0
  · have h := g_t c4 h
    rw [c4, zx_rfo_0]
    refine lv_astore_nN (lv' := [(3, .null), (0, .ref (a 0)), (1, .int p0), (2, .int p1)]) hx hb dX8_share_5 rfl hl (by decide) rfl (fun ls hl => ?_)
    refine lv_aload_nN hx hb dX8_share_6 rfl (lv_at hl 0 rfl) ?_
    refine lv_ifnullN (tgt := 17) hx hb dX8_share_7 (by decide) ?_
    refine lv_iconst (v := -1) hx hb dX8_share_17 (by decide) ?_
    refine lv_goto (tgt := 26) hx hb dX8_share_18 (by decide) ?_
    exact zx_ri F hr hW hS h dX8_share_26
  · have h := g_f c4 h
    obtain ⟨kt5, ekt5, h⟩ := g_pin h
    obtain ⟨hk6, h⟩ := g_ok h
    rw [zx_rfo_tab (by rw [← ekt5]; exact hk6), ← ekt5]
    refine lv_astore_n (lv' := [(3, .ref (a kt5)), (0, .ref (a 0)), (1, .int p0), (2, .int p1)]) hx hb dX8_share_5 rfl hl (by decide) rfl (fun ls hl => ?_)
    refine lv_aload_n hx hb dX8_share_6 rfl (lv_at hl 0 rfl) ?_
    refine lv_ifnull hx hb dX8_share_7 ?_
    refine lv_iload_n hx hb dX8_share_10 rfl (lv_at hl 3 rfl) ?_
    obtain ⟨r7, S8, h9, h⟩ := g_bd h
    refine zx_ci (zx_runS (As := [.int p1]) (rest := []) F hW (c_X8_isSymbol l D a cs p1  S2 r7 S8 h9) Y_X8_isSymbol wt_X8_isSymbol wm_X8_110 ⟨rfl, rfl, Nat.le_of_ble_eq_true rfl, Nat.le_of_ble_eq_true rfl, Nat.le_of_ble_eq_true rfl, Nat.le_of_ble_eq_true rfl⟩ rfl hl.1 rfl (Nat.le_of_ble_eq_true rfl) dX8_share_11) hS (fun H locs hW hS => ?_)
    refine lv_if_ne (tgt := 21) hx hb dX8_share_14 (by decide) (fun c10 => ?_) (fun c10 => ?_)
    · have h := g_f c10 h
      refine lv_aload_n hx hb dX8_share_21 rfl (lv_at hl 0 rfl) ?_
      refine lv_iload_n hx hb dX8_share_22 rfl (lv_at hl 3 rfl) ?_
      obtain ⟨r11, S12, h13, h⟩ := g_bd h
      refine zx_ci (zx_runV (q := (RX6, TX6, 2)) (As := [.int p1]) (rest := []) F hW (c_X6_shareOf l D a cs kt5 p1 hk6 S8 r11 S12 h13) Y_X6_shareOf wi_X6_shareOf ws_X6_shareOf wm_X8_113 ⟨rfl, rfl, Nat.le_of_ble_eq_true rfl, Nat.le_of_ble_eq_true rfl, Nat.le_of_ble_eq_true rfl, Nat.le_of_ble_eq_true rfl⟩ (zx_tab_l hk6).1 (zx_tab_E hk6) rfl rfl hl.1 rfl (Nat.le_of_ble_eq_true rfl) dX8_share_23) hS (fun H locs hW hS => ?_)
      exact zx_ri F hr hW hS h dX8_share_26
    · have h := g_t c10 h
      refine lv_iconst (v := -1) hx hb dX8_share_17 (by decide) ?_
      refine lv_goto (tgt := 26) hx hb dX8_share_18 (by decide) ?_
      exact zx_ri F hr hW hS h dX8_share_26
theorem Y_X8_start : zx_Y yX8_start cX8_start 4 (some (.int)) 2 := ⟨wc_X8_start, wn_X8, by decide, by decide, by decide +kernel⟩
set_option maxHeartbeats 4000000 in
set_option maxRecDepth 100000 in
theorem c_X8_start (l : Launch) (D : va_G) (a : Nat → Nat) (cs : zx_C) (fu : Nat) (p0 : Int32) (p1 : Int32)  (S : St) (r9 : Int32) (S9 : St) (h : f_X8_start fu p0 p1 S = some (r9, S9)) : Met l yX8_start (Cond.code yX8_start cX8_start 4 (some (.int)) :: zx_tb) ({ frames := 2, cells := 0, slots := 0, locals := 42 }) (zx_P D a cs [.ref (a 0), .int p0, .int p1] S) (zx_Qi D a cs r9 S9) 0 0 (zx_A a) := by
  refine zx_met (own := RX8) (by decide) (Nat.le_of_ble_eq_true rfl) rfl ?_
  intro p e s m below meth c ls F hr hW hS hl
  have hl : lv_has ls 4 [(0, .ref (a 0)), (1, .int p0), (2, .int p1)] := hl
  obtain ⟨⟨hx, hb, hml, hown, hts⟩, hlk, hK, hJ, hN⟩ := id F
  unfold f_X8_start at h
  refine lv_aload_n hx hb dX8_start_0 rfl (lv_at hl 0 rfl) ?_
  refine lv_iload_n hx hb dX8_start_1 rfl (lv_at hl 1 rfl) ?_
  obtain ⟨r1, S2, h3, h⟩ := g_bd h
  refine zx_ca (zx_runV (q := (RX8, TX8, 11)) (As := [.int p0]) (rest := []) F hW (c_X8_tableOrNull l D a cs p0  S r1 S2 h3) Y_X8_tableOrNull wi_X8_tableOrNull ws_X8_tableOrNull wm_X8_103 ⟨rfl, rfl, Nat.le_of_ble_eq_true rfl, Nat.le_of_ble_eq_true rfl, Nat.le_of_ble_eq_true rfl, Nat.le_of_ble_eq_true rfl⟩ (by decide) zx_E0 rfl rfl hl.1 rfl (Nat.le_of_ble_eq_true rfl) dX8_start_2) hS (fun H locs hW hS => ?_)
  by_cases c4 : r1 = 0
  · have h := g_t c4 h
    rw [c4, zx_rfo_0]
    refine lv_astore_nN (lv' := [(3, .null), (0, .ref (a 0)), (1, .int p0), (2, .int p1)]) hx hb dX8_start_5 rfl hl (by decide) rfl (fun ls hl => ?_)
    refine lv_aload_nN hx hb dX8_start_6 rfl (lv_at hl 0 rfl) ?_
    refine lv_ifnullN (tgt := 17) hx hb dX8_start_7 (by decide) ?_
    refine lv_iconst (v := -1) hx hb dX8_start_17 (by decide) ?_
    refine lv_goto (tgt := 26) hx hb dX8_start_18 (by decide) ?_
    exact zx_ri F hr hW hS h dX8_start_26
  · have h := g_f c4 h
    obtain ⟨kt5, ekt5, h⟩ := g_pin h
    obtain ⟨hk6, h⟩ := g_ok h
    rw [zx_rfo_tab (by rw [← ekt5]; exact hk6), ← ekt5]
    refine lv_astore_n (lv' := [(3, .ref (a kt5)), (0, .ref (a 0)), (1, .int p0), (2, .int p1)]) hx hb dX8_start_5 rfl hl (by decide) rfl (fun ls hl => ?_)
    refine lv_aload_n hx hb dX8_start_6 rfl (lv_at hl 0 rfl) ?_
    refine lv_ifnull hx hb dX8_start_7 ?_
    refine lv_iload_n hx hb dX8_start_10 rfl (lv_at hl 3 rfl) ?_
    obtain ⟨r7, S8, h9, h⟩ := g_bd h
    refine zx_ci (zx_runS (As := [.int p1]) (rest := []) F hW (c_X8_isSymbol l D a cs p1  S2 r7 S8 h9) Y_X8_isSymbol wt_X8_isSymbol wm_X8_110 ⟨rfl, rfl, Nat.le_of_ble_eq_true rfl, Nat.le_of_ble_eq_true rfl, Nat.le_of_ble_eq_true rfl, Nat.le_of_ble_eq_true rfl⟩ rfl hl.1 rfl (Nat.le_of_ble_eq_true rfl) dX8_start_11) hS (fun H locs hW hS => ?_)
    refine lv_if_ne (tgt := 21) hx hb dX8_start_14 (by decide) (fun c10 => ?_) (fun c10 => ?_)
    · have h := g_f c10 h
      refine lv_aload_n hx hb dX8_start_21 rfl (lv_at hl 0 rfl) ?_
      refine lv_iload_n hx hb dX8_start_22 rfl (lv_at hl 3 rfl) ?_
      obtain ⟨r11, S12, h13, h⟩ := g_bd h
      refine zx_ci (zx_runV (q := (RX6, TX6, 2)) (As := [.int p1]) (rest := []) F hW (c_X6_startOf l D a cs fu kt5 p1 hk6 S8 r11 S12 h13) Y_X6_startOf wi_X6_startOf ws_X6_startOf wm_X8_117 ⟨rfl, rfl, Nat.le_of_ble_eq_true rfl, Nat.le_of_ble_eq_true rfl, Nat.le_of_ble_eq_true rfl, Nat.le_of_ble_eq_true rfl⟩ (zx_tab_l hk6).1 (zx_tab_E hk6) rfl rfl hl.1 rfl (Nat.le_of_ble_eq_true rfl) dX8_start_23) hS (fun H locs hW hS => ?_)
      exact zx_ri F hr hW hS h dX8_start_26
    · have h := g_t c10 h
      refine lv_iconst (v := -1) hx hb dX8_start_17 (by decide) ?_
      refine lv_goto (tgt := 26) hx hb dX8_start_18 (by decide) ?_
      exact zx_ri F hr hW hS h dX8_start_26
theorem Y_X8_symbol : zx_Y yX8_symbol cX8_symbol 5 (some (.int)) 4 := ⟨wc_X8_symbol, wn_X8, by decide, by decide, by decide +kernel⟩
set_option maxHeartbeats 4000000 in
set_option maxRecDepth 100000 in
theorem c_X8_symbol (l : Launch) (D : va_G) (a : Nat → Nat) (cs : zx_C) (fu : Nat) (p0 : Int32) (p1 : Int32) (p2 : Int32) (p3 : Int32)  (S : St) (r9 : Int32) (S9 : St) (h : f_X8_symbol fu p0 p1 p2 p3 S = some (r9, S9)) : Met l yX8_symbol (Cond.code yX8_symbol cX8_symbol 5 (some (.int)) :: zx_tb) ({ frames := 6, cells := 0, slots := 0, locals := 141 }) (zx_P D a cs [.ref (a 0), .int p0, .int p1, .int p2, .int p3] S) (zx_Qi D a cs r9 S9) 0 0 (zx_A a) := by
  refine zx_met (own := RX8) (by decide) (Nat.le_of_ble_eq_true rfl) rfl ?_
  intro p e s m below meth c ls F hr hW hS hl
  have hl : lv_has ls 5 [(0, .ref (a 0)), (1, .int p0), (2, .int p1), (3, .int p2), (4, .int p3)] := hl
  obtain ⟨⟨hx, hb, hml, hown, hts⟩, hlk, hK, hJ, hN⟩ := id F
  unfold f_X8_symbol at h
  refine lv_aload_n hx hb dX8_symbol_0 rfl (lv_at hl 0 rfl) ?_
  refine lv_iload_n hx hb dX8_symbol_1 rfl (lv_at hl 1 rfl) ?_
  refine lv_iload_n hx hb dX8_symbol_2 rfl (lv_at hl 2 rfl) ?_
  refine lv_iload_n hx hb dX8_symbol_3 rfl (lv_at hl 3 rfl) ?_
  refine lv_iload hx hb dX8_symbol_4 (lv_at hl 4 rfl) ?_
  obtain ⟨r1, S2, h3, h⟩ := g_bd h
  refine zx_ci (zx_runV (q := (RX8, TX8, 11)) (As := [.int p0, .int p1, .int p2, .int p3]) (rest := []) F hW (c_X8_prepareForState l D a cs fu p0 p1 p2 p3  S r1 S2 h3) Y_X8_prepareForState wi_X8_prepareForState ws_X8_prepareForState wm_X8_189 ⟨rfl, rfl, Nat.le_of_ble_eq_true rfl, Nat.le_of_ble_eq_true rfl, Nat.le_of_ble_eq_true rfl, Nat.le_of_ble_eq_true rfl⟩ (by decide) zx_E0 rfl rfl hl.1 rfl (Nat.le_of_ble_eq_true rfl) dX8_symbol_6) hS (fun H locs hW hS => ?_)
  refine lv_if_eq (tgt := 24) hx hb dX8_symbol_9 (by decide) (fun c4 => ?_) (fun c4 => ?_)
  · have h := g_t c4 h
    refine lv_iconst (v := -1) hx hb dX8_symbol_24 (by decide) ?_
    exact zx_ri F hr hW hS h dX8_symbol_25
  · have h := g_f c4 h
    refine lv_aload_n hx hb dX8_symbol_12 rfl (lv_at hl 0 rfl) ?_
    refine zx_get (C := RX8) (T := TX8) (N := 11) F hW wu_X8 (by decide) zx_E0 rfl 5 (by decide) wf_X8_40 rfl dX8_symbol_13 ?_
    refine lv_iload hx hb dX8_symbol_16 (lv_at hl 4 rfl) ?_
    obtain ⟨r5, S6, h7, h⟩ := g_bd h
    refine zx_ci (zx_runV (q := (RX0, TX0, 8)) (As := [.int p3]) (rest := []) F hW (c_X0_symbolOf l D a cs p3  S2 r5 S6 h7) Y_X0_symbolOf wi_X0_symbolOf ws_X0_symbolOf wm_X8_206 ⟨rfl, rfl, Nat.le_of_ble_eq_true rfl, Nat.le_of_ble_eq_true rfl, Nat.le_of_ble_eq_true rfl, Nat.le_of_ble_eq_true rfl⟩ (by decide) zx_E8 rfl rfl hl.1 rfl (Nat.le_of_ble_eq_true rfl) dX8_symbol_18) hS (fun H locs hW hS => ?_)
    refine lv_goto (tgt := 25) hx hb dX8_symbol_21 (by decide) ?_
    exact zx_ri F hr hW hS h dX8_symbol_25
theorem Y_X8_take : zx_Y yX8_take cX8_take 1 (some (.int)) 0 := ⟨wc_X8_take, wn_X8, by decide, by decide, by decide +kernel⟩
set_option maxHeartbeats 4000000 in
set_option maxRecDepth 100000 in
theorem c_X8_take (l : Launch) (D : va_G) (a : Nat → Nat) (cs : zx_C)   (S : St) (r9 : Int32) (S9 : St) (h : f_X8_take  S = some (r9, S9)) : Met l yX8_take (Cond.code yX8_take cX8_take 1 (some (.int)) :: zx_tb) ({ frames := 2, cells := 0, slots := 0, locals := 55 }) (zx_P D a cs [.ref (a 0)] S) (zx_Qi D a cs r9 S9) 0 0 (zx_A a) := by
  refine zx_met (own := RX8) (by decide) (Nat.le_of_ble_eq_true rfl) rfl ?_
  intro p e s m below meth c ls F hr hW hS hl
  have hl : lv_has ls 1 [(0, .ref (a 0))] := hl
  obtain ⟨⟨hx, hb, hml, hown, hts⟩, hlk, hK, hJ, hN⟩ := id F
  unfold f_X8_take at h
  refine lv_aload_n hx hb dX8_take_0 rfl (lv_at hl 0 rfl) ?_
  refine zx_get (C := RX8) (T := TX8) (N := 11) F hW wu_X8 (by decide) zx_E0 rfl 0 (by decide) wf_X8_12 rfl dX8_take_1 ?_
  refine lv_aload_n hx hb dX8_take_4 rfl (lv_at hl 0 rfl) ?_
  refine zx_get (C := RX8) (T := TX8) (N := 11) F hW wu_X8 (by decide) zx_E0 rfl 1 (by decide) wf_X8_16 rfl dX8_take_5 ?_
  obtain ⟨r1, S2, h3, h⟩ := g_bd h
  refine zx_cv (zx_runV (q := (RX4, TX4, 2)) (As := [.ref (a 3)]) (rest := []) F hW (c_X4_copy l D a cs 1 3 (by decide) (by decide) S r1 S2 h3) Y_X4_copy wi_X4_copy ws_X4_copy wm_X8_177 ⟨rfl, rfl, Nat.le_of_ble_eq_true rfl, Nat.le_of_ble_eq_true rfl, Nat.le_of_ble_eq_true rfl, Nat.le_of_ble_eq_true rfl⟩ (by decide) zx_E1 rfl rfl hl.1 rfl (Nat.le_of_ble_eq_true rfl) dX8_take_8) hS (fun H locs hW hS => ?_)
  refine lv_aload_n hx hb dX8_take_11 rfl (lv_at hl 0 rfl) ?_
  refine zx_get (C := RX8) (T := TX8) (N := 11) F hW wu_X8 (by decide) zx_E0 rfl 0 (by decide) wf_X8_12 rfl dX8_take_12 ?_
  refine zx_get (C := RX4) (T := TX4) (N := 2) F hW wu_X4 (by decide) zx_E1 rfl 1 (by decide) wf_X8_70 rfl dX8_take_15 ?_
  exact zx_ri F hr hW hS h dX8_take_18
theorem Y_X8_unpack : zx_Y yX8_unpack cX8_unpack 3 (some (.int)) 1 := ⟨wc_X8_unpack, wn_X8, by decide, by decide, by decide +kernel⟩
set_option maxHeartbeats 4000000 in
set_option maxRecDepth 100000 in
theorem c_X8_unpack (l : Launch) (D : va_G) (a : Nat → Nat) (cs : zx_C) (fu : Nat) (p0 : Int32)  (S : St) (r9 : Int32) (S9 : St) (h : f_X8_unpack fu p0 S = some (r9, S9)) : Met l yX8_unpack (Cond.code yX8_unpack cX8_unpack 3 (some (.int)) :: zx_tb) ({ frames := 7, cells := 0, slots := 0, locals := 151 }) (zx_P D a cs [.ref (a 0), .int p0] S) (zx_Qi D a cs r9 S9) 0 0 (zx_A a) := by
  refine zx_met (own := RX8) (by decide) (Nat.le_of_ble_eq_true rfl) rfl ?_
  intro p e s m below meth c ls F hr hW hS hl
  have hl : lv_has ls 3 [(0, .ref (a 0)), (1, .int p0)] := hl
  obtain ⟨⟨hx, hb, hml, hown, hts⟩, hlk, hK, hJ, hN⟩ := id F
  unfold f_X8_unpack at h
  refine lv_iload_n hx hb dX8_unpack_0 rfl (lv_at hl 1 rfl) ?_
  obtain ⟨r1, S2, h3, h⟩ := g_bd h
  refine zx_ci (zx_runS (As := [.int p0]) (rest := []) F hW (c_X8_isTableNumber l D a cs p0  S r1 S2 h3) Y_X8_isTableNumber wt_X8_isTableNumber wm_X8_77 ⟨rfl, rfl, Nat.le_of_ble_eq_true rfl, Nat.le_of_ble_eq_true rfl, Nat.le_of_ble_eq_true rfl, Nat.le_of_ble_eq_true rfl⟩ rfl hl.1 rfl (Nat.le_of_ble_eq_true rfl) dX8_unpack_1) hS (fun H locs hW hS => ?_)
  refine lv_if_ne (tgt := 9) hx hb dX8_unpack_4 (by decide) (fun c4 => ?_) (fun c4 => ?_)
  · have h := g_f c4 h
    refine lv_aload_n hx hb dX8_unpack_9 rfl (lv_at hl 0 rfl) ?_
    refine zx_get (C := RX8) (T := TX8) (N := 11) F hW wu_X8 (by decide) zx_E0 rfl 4 (by decide) wf_X8_32 rfl dX8_unpack_10 ?_
    refine lv_aload_n hx hb dX8_unpack_13 rfl (lv_at hl 0 rfl) ?_
    refine zx_get (C := RX8) (T := TX8) (N := 11) F hW wu_X8 (by decide) zx_E0 rfl 0 (by decide) wf_X8_12 rfl dX8_unpack_14 ?_
    obtain ⟨r5, S6, h7, h⟩ := g_bd h
    refine zx_ci (zx_runV (q := (RX1, TX1, 16)) (As := [.ref (a 1)]) (rest := []) F hW (c_X1_readPacket l D a cs fu   S2 r5 S6 h7) Y_X1_readPacket wi_X1_readPacket ws_X1_readPacket wm_X8_155 ⟨rfl, rfl, Nat.le_of_ble_eq_true rfl, Nat.le_of_ble_eq_true rfl, Nat.le_of_ble_eq_true rfl, Nat.le_of_ble_eq_true rfl⟩ (by decide) zx_E7 rfl rfl hl.1 rfl (Nat.le_of_ble_eq_true rfl) dX8_unpack_17) hS (fun H locs hW hS => ?_)
    refine lv_istore_n (lv' := [(2, .int r5), (0, .ref (a 0)), (1, .int p0)]) hx hb dX8_unpack_20 rfl hl (by decide) rfl (fun ls hl => ?_)
    refine lv_aload_n hx hb dX8_unpack_21 rfl (lv_at hl 1 rfl) ?_
    refine zx_get (C := RX8) (T := TX8) (N := 11) F hW wu_X8 (by decide) zx_E0 rfl 0 (by decide) wf_X8_12 rfl dX8_unpack_22 ?_
    refine lv_iconst (v := 0) hx hb dX8_unpack_25 (by decide) ?_
    obtain ⟨S8, eS8, h⟩ := g_pin h
    refine zx_putv (C := RX4) (T := TX4) (N := 2) F hW hS wu_X4 tyX4_ok nmX4 (by decide) zx_E1 rfl 1 (by decide) wf_X8_70 rfl (0 : Int32) rfl rfl (Nat.le_of_ble_eq_true rfl) rfl dX8_unpack_26 (fun H locs hW hS => ?_)
    have hW : zx_W D a cs S8 H := by rw [eS8]; exact hW
    refine lv_iload_n hx hb dX8_unpack_29 rfl (lv_at hl 0 rfl) ?_
    refine lv_if_ne (tgt := 35) hx hb dX8_unpack_30 (by decide) (fun c9 => ?_) (fun c9 => ?_)
    · have h := g_f c9 h
      refine lv_aload_n hx hb dX8_unpack_35 rfl (lv_at hl 1 rfl) ?_
      refine zx_get (C := RX8) (T := TX8) (N := 11) F hW wu_X8 (by decide) zx_E0 rfl 2 (by decide) wf_X8_21 rfl dX8_unpack_36 ?_
      refine lv_iload_n hx hb dX8_unpack_39 rfl (lv_at hl 2 rfl) ?_
      refine lv_aload_n hx hb dX8_unpack_40 rfl (lv_at hl 1 rfl) ?_
      refine zx_get (C := RX8) (T := TX8) (N := 11) F hW wu_X8 (by decide) zx_E0 rfl 4 (by decide) wf_X8_32 rfl dX8_unpack_41 ?_
      refine lv_aload_n hx hb dX8_unpack_44 rfl (lv_at hl 1 rfl) ?_
      refine zx_get (C := RX8) (T := TX8) (N := 11) F hW wu_X8 (by decide) zx_E0 rfl 2 (by decide) wf_X8_21 rfl dX8_unpack_45 ?_
      refine lv_iload_n hx hb dX8_unpack_48 rfl (lv_at hl 2 rfl) ?_
      obtain ⟨c10, h⟩ := g_no h
      refine zx_aald F hW c10 dX8_unpack_49 ?_
      obtain ⟨kt12, ekt12, h⟩ := g_pin h
      obtain ⟨hk11, h⟩ := g_ok h
      rw [zx_rfo_tab (by rw [← ekt12]; exact hk11), ← ekt12]
      obtain ⟨r13, S14, h15, h⟩ := g_bd h
      refine zx_ca (zx_runV (q := (RX1, TX1, 16)) (As := [.ref (a kt12)]) (rest := [.int p0, .ref (a 5)]) F hW (c_X1_exchangeTable l D a cs kt12 hk11 S8 r13 S14 h15) Y_X1_exchangeTable wi_X1_exchangeTable ws_X1_exchangeTable wm_X8_159 ⟨rfl, rfl, Nat.le_of_ble_eq_true rfl, Nat.le_of_ble_eq_true rfl, Nat.le_of_ble_eq_true rfl, Nat.le_of_ble_eq_true rfl⟩ (by decide) zx_E7 rfl rfl hl.1 rfl (Nat.le_of_ble_eq_true rfl) dX8_unpack_50) hS (fun H locs hW hS => ?_)
      by_cases c16 : r13 = 0
      · have h := g_t c16 h
        rw [c16, zx_rfo_0]
        exact absurd h (fun q => by cases q)
      · have h := g_f c16 h
        obtain ⟨kt17, ekt17, h⟩ := g_pin h
        obtain ⟨hk18, h⟩ := g_ok h
        rw [zx_rfo_tab (by rw [← ekt17]; exact hk18), ← ekt17]
        obtain ⟨c19, h⟩ := g_no h
        obtain ⟨S20, eS20, h⟩ := g_pin h
        refine zx_aast F hW hS (zx_tab_l hk18).1 (zx_tab_0 hk18) (zx_tab_E hk18) c19 dX8_unpack_53 (fun H locs hW hS => ?_)
        have hW : zx_W D a cs S20 H := by rw [eS20]; exact hW
        refine lv_aload_n hx hb dX8_unpack_54 rfl (lv_at hl 1 rfl) ?_
        refine zx_get (C := RX8) (T := TX8) (N := 11) F hW wu_X8 (by decide) zx_E0 rfl 4 (by decide) wf_X8_32 rfl dX8_unpack_55 ?_
        refine lv_aload_n hx hb dX8_unpack_58 rfl (lv_at hl 1 rfl) ?_
        refine zx_get (C := RX8) (T := TX8) (N := 11) F hW wu_X8 (by decide) zx_E0 rfl 1 (by decide) wf_X8_16 rfl dX8_unpack_59 ?_
        obtain ⟨r21, S22, h23, h⟩ := g_bd h
        refine zx_cv (zx_runV (q := (RX1, TX1, 16)) (As := [.ref (a 3)]) (rest := []) F hW (c_X1_writeMessage l D a cs fu 3 (by decide) S20 r21 S22 h23) Y_X1_writeMessage wi_X1_writeMessage ws_X1_writeMessage wm_X8_163 ⟨rfl, rfl, Nat.le_of_ble_eq_true rfl, Nat.le_of_ble_eq_true rfl, Nat.le_of_ble_eq_true rfl, Nat.le_of_ble_eq_true rfl⟩ (by decide) zx_E7 rfl rfl hl.1 rfl (Nat.le_of_ble_eq_true rfl) dX8_unpack_62) hS (fun H locs hW hS => ?_)
        refine lv_aload_n hx hb dX8_unpack_65 rfl (lv_at hl 1 rfl) ?_
        refine zx_get (C := RX8) (T := TX8) (N := 11) F hW wu_X8 (by decide) zx_E0 rfl 7 (by decide) wf_X8_51 rfl dX8_unpack_66 ?_
        refine lv_aload_n hx hb dX8_unpack_69 rfl (lv_at hl 1 rfl) ?_
        refine zx_get (C := RX8) (T := TX8) (N := 11) F hW wu_X8 (by decide) zx_E0 rfl 4 (by decide) wf_X8_32 rfl dX8_unpack_70 ?_
        refine zx_get (C := RX1) (T := TX1) (N := 16) F hW wu_X1 (by decide) zx_E7 rfl 1 (by decide) wf_X8_167 rfl dX8_unpack_73 ?_
        obtain ⟨r24, S25, h26, h⟩ := g_bd h
        refine zx_cv (zx_runV (q := (RX7, TX7, 1)) (As := [.ref (a 16)]) (rest := []) F hW (c_X7_copy l D a cs 39 16 (by decide) (by decide) S22 r24 S25 h26) Y_X7_copy wi_X7_copy ws_X7_copy wm_X8_151 ⟨rfl, rfl, Nat.le_of_ble_eq_true rfl, Nat.le_of_ble_eq_true rfl, Nat.le_of_ble_eq_true rfl, Nat.le_of_ble_eq_true rfl⟩ (by decide) zx_E39 rfl rfl hl.1 rfl (Nat.le_of_ble_eq_true rfl) dX8_unpack_76) hS (fun H locs hW hS => ?_)
        refine lv_aload_n hx hb dX8_unpack_79 rfl (lv_at hl 1 rfl) ?_
        refine zx_get (C := RX8) (T := TX8) (N := 11) F hW wu_X8 (by decide) zx_E0 rfl 1 (by decide) wf_X8_16 rfl dX8_unpack_80 ?_
        refine zx_get (C := RX4) (T := TX4) (N := 2) F hW wu_X4 (by decide) zx_E3 rfl 1 (by decide) wf_X8_70 rfl dX8_unpack_83 ?_
        exact zx_ri F hr hW hS h dX8_unpack_86
    · have h := g_t c9 h
      refine lv_iconst (v := -1) hx hb dX8_unpack_33 (by decide) ?_
      exact zx_ri F hr hW hS h dX8_unpack_34
  · have h := g_t c4 h
    refine lv_iconst (v := -1) hx hb dX8_unpack_7 (by decide) ?_
    exact zx_ri F hr hW hS h dX8_unpack_8
theorem Y_X8_written : zx_Y yX8_written cX8_written 2 (some (.int)) 1 := ⟨wc_X8_written, wn_X8, by decide, by decide, by decide +kernel⟩
set_option maxHeartbeats 4000000 in
set_option maxRecDepth 100000 in
theorem c_X8_written (l : Launch) (D : va_G) (a : Nat → Nat) (cs : zx_C) (p0 : Int32)  (S : St) (r9 : Int32) (S9 : St) (h : f_X8_written p0 S = some (r9, S9)) : Met l yX8_written (Cond.code yX8_written cX8_written 2 (some (.int)) :: zx_tb) ({ frames := 1, cells := 0, slots := 0, locals := 21 }) (zx_P D a cs [.ref (a 0), .int p0] S) (zx_Qi D a cs r9 S9) 0 0 (zx_A a) := by
  refine zx_met (own := RX8) (by decide) (Nat.le_of_ble_eq_true rfl) rfl ?_
  intro p e s m below meth c ls F hr hW hS hl
  have hl : lv_has ls 2 [(0, .ref (a 0)), (1, .int p0)] := hl
  obtain ⟨⟨hx, hb, hml, hown, hts⟩, hlk, hK, hJ, hN⟩ := id F
  unfold f_X8_written at h
  refine lv_aload_n hx hb dX8_written_0 rfl (lv_at hl 0 rfl) ?_
  refine zx_get (C := RX8) (T := TX8) (N := 11) F hW wu_X8 (by decide) zx_E0 rfl 1 (by decide) wf_X8_16 rfl dX8_written_1 ?_
  refine lv_iload_n hx hb dX8_written_4 rfl (lv_at hl 1 rfl) ?_
  obtain ⟨r1, S2, h3, h⟩ := g_bd h
  refine zx_ci (zx_runV (q := (RX4, TX4, 2)) (As := [.int p0]) (rest := []) F hW (c_X4_byteAt l D a cs 3 p0 (by decide) S r1 S2 h3) Y_X4_byteAt wi_X4_byteAt ws_X4_byteAt wm_X8_174 ⟨rfl, rfl, Nat.le_of_ble_eq_true rfl, Nat.le_of_ble_eq_true rfl, Nat.le_of_ble_eq_true rfl, Nat.le_of_ble_eq_true rfl⟩ (by decide) zx_E3 rfl rfl hl.1 rfl (Nat.le_of_ble_eq_true rfl) dX8_written_5) hS (fun H locs hW hS => ?_)
  exact zx_ri F hr hW hS h dX8_written_8
theorem Y_X9_begin : zx_Y yX9_begin cX9_begin 4 none 1 := ⟨wc_X9_begin, wn_X9, by decide, by decide, by decide +kernel⟩
set_option maxHeartbeats 4000000 in
set_option maxRecDepth 100000 in
theorem k_X9_begin_L47 {l : Launch} {D : va_G} {a : Nat → Nat} {cs : zx_C} {p : Program} {e : Env} {s : State} {m : MethodId} {below : List Frame} {meth : Method} {c : Code} {fu : Nat} {p0 : Int32}  (F : zx_F D a cs p m c cX9_begin 4 s ([.ref (a 43), .int p0] : List Value).toArray RX9 meth) (hr : meth.sig.returnType = none) {r9 : Int32} {S9 : St}    : ∀ (n : Nat) (v1 : Int32) (v3 : Int32) (S : St), f_X9_begin_L47 fu p0   n v1 v3 S = some (r9, S9) → ∀ (H : Heap) (locs : List Loc) (ls : Array Slot), zx_W D a cs S H → va_S (zx_A a) s.heap H locs → lv_has ls 4 [(0, .ref (a 43)), (1, .int v1), (3, .int v3)] → W p l e ({ frames := 0, cells := 0, slots := 0, locals := 0 }) s m ([.ref (a 43), .int p0] : List Value).toArray below meth c H locs 0 0 (MQ below (zx_Qv D a cs S9) ([.ref (a 43), .int p0] : List Value).toArray s 0 0 (zx_A a)) (F0 m 47 ls []) := by
  obtain ⟨⟨hx, hb, hml, hown, hts⟩, hlk, hK, hJ, hN⟩ := id F
  intro n
  induction n with
  | zero =>
    intro v1 v3 S h
    exact absurd h (fun q => by cases q)
  | succ n ih =>
    intro v1 v3 S h H locs ls hW hS hl
    rw [f_X9_begin_L47_s] at h
    refine lv_iload_n hx hb dX9_begin_47 rfl (lv_at hl 2 rfl) ?_
    refine lv_iconst (v := 3) hx hb dX9_begin_48 (by decide) ?_
    refine lv_icmp_ge (tgt := 69) hx hb dX9_begin_49 (by decide) (fun c2 => ?_) (fun c2 => ?_)
    · have h := g_t c2 h
      exact zx_rv F hr hW hS h dX9_begin_69
    · have h := g_f c2 h
      refine lv_aload_n hx hb dX9_begin_52 rfl (lv_at hl 0 rfl) ?_
      refine zx_get (C := RX9) (T := TX9) (N := 35) F hW wu_X9 (by decide) zx_E43 rfl 7 (by decide) wf_X9_25 rfl dX9_begin_53 ?_
      refine lv_iconst (v := 3) hx hb dX9_begin_56 (by decide) ?_
      refine lv_iload_n hx hb dX9_begin_57 rfl (lv_at hl 1 rfl) ?_
      refine lv_imul hx hb dX9_begin_58 ?_
      refine lv_iload_n hx hb dX9_begin_59 rfl (lv_at hl 2 rfl) ?_
      refine lv_iadd hx hb dX9_begin_60 ?_
      refine lv_iconst (v := 0) hx hb dX9_begin_61 (by decide) ?_
      obtain ⟨c4, h⟩ := g_no h
      obtain ⟨S3, eS3, h⟩ := g_pin h
      refine zx_zast (n := 21) F hW hS (by decide) (fun f => zx_E49) c4 dX9_begin_62 (fun H locs hW hS => ?_)
      have hW : zx_W D a cs S3 H := by rw [eS3]; exact hW
      obtain ⟨x5, ex5, h⟩ := g_pin h
      refine lv_iinc (v := x5) (lv' := [(3, .int x5), (0, .ref (a 43)), (1, .int v1)]) hx hb dX9_begin_63 hl (k := 2) rfl (by rw [ex5]; rfl) (by decide) rfl (fun ls hl => ?_)
      refine lv_goto (tgt := 47) hx hb dX9_begin_66 (by decide) ?_
      exact ih v1 x5 S3 h _ _ _ hW hS (lv_sub hl [1, 2, 0] rfl)
set_option maxHeartbeats 4000000 in
set_option maxRecDepth 100000 in
theorem k_X9_begin_L4 {l : Launch} {D : va_G} {a : Nat → Nat} {cs : zx_C} {p : Program} {e : Env} {s : State} {m : MethodId} {below : List Frame} {meth : Method} {c : Code} {fu : Nat} {p0 : Int32}  (F : zx_F D a cs p m c cX9_begin 4 s ([.ref (a 43), .int p0] : List Value).toArray RX9 meth) (hr : meth.sig.returnType = none) {r9 : Int32} {S9 : St}    : ∀ (n : Nat) (v1 : Int32) (v2 : Int32) (v3 : Int32) (S : St), f_X9_begin_L4 fu p0   n v1 v2 v3 S = some (r9, S9) → ∀ (H : Heap) (locs : List Loc) (ls : Array Slot), zx_W D a cs S H → va_S (zx_A a) s.heap H locs → lv_has ls 4 [(0, .ref (a 43)), (1, .int v1), (2, .int v2), (3, .int v3)] → W p l e ({ frames := 0, cells := 0, slots := 0, locals := 0 }) s m ([.ref (a 43), .int p0] : List Value).toArray below meth c H locs 0 0 (MQ below (zx_Qv D a cs S9) ([.ref (a 43), .int p0] : List Value).toArray s 0 0 (zx_A a)) (F0 m 4 ls []) := by
  obtain ⟨⟨hx, hb, hml, hown, hts⟩, hlk, hK, hJ, hN⟩ := id F
  intro n
  induction n with
  | zero =>
    intro v1 v2 v3 S h
    exact absurd h (fun q => by cases q)
  | succ n ih =>
    intro v1 v2 v3 S h H locs ls hW hS hl
    rw [f_X9_begin_L4_s] at h
    refine lv_iload_n hx hb dX9_begin_4 rfl (lv_at hl 3 rfl) ?_
    refine lv_sipush (v := 256) hx hb dX9_begin_5 (by decide) ?_
    refine lv_icmp_ge (tgt := 45) hx hb dX9_begin_8 (by decide) (fun c1 => ?_) (fun c1 => ?_)
    · have h := g_t c1 h
      refine lv_iconst (v := 0) hx hb dX9_begin_45 (by decide) ?_
      refine lv_istore_n (lv' := [(3, .int (0 : Int32)), (0, .ref (a 43)), (1, .int v1), (2, .int v2)]) hx hb dX9_begin_46 rfl hl (by decide) rfl (fun ls hl => ?_)
      exact k_X9_begin_L47  F hr   fu v1 (0 : Int32) S h _ _ _ hW hS (lv_sub hl [1, 2, 0] rfl)
    · have h := g_f c1 h
      refine lv_aload_n hx hb dX9_begin_11 rfl (lv_at hl 0 rfl) ?_
      refine zx_get (C := RX9) (T := TX9) (N := 35) F hW wu_X9 (by decide) zx_E43 rfl 6 (by decide) wf_X9_22 rfl dX9_begin_12 ?_
      refine lv_sipush (v := 256) hx hb dX9_begin_15 (by decide) ?_
      refine lv_iload_n hx hb dX9_begin_18 rfl (lv_at hl 1 rfl) ?_
      refine lv_imul hx hb dX9_begin_19 ?_
      refine lv_iload_n hx hb dX9_begin_20 rfl (lv_at hl 3 rfl) ?_
      refine lv_iadd hx hb dX9_begin_21 ?_
      refine lv_iload_n hx hb dX9_begin_22 rfl (lv_at hl 2 rfl) ?_
      obtain ⟨c7, h⟩ := g_no h
      obtain ⟨S6, eS6, h⟩ := g_pin h
      refine zx_iast (n := 1792) F hW hS (by decide) (fun f => zx_E48) c7 dX9_begin_23 (fun H locs hW hS => ?_)
      have hW : zx_W D a cs S6 H := by rw [eS6]; exact hW
      refine lv_iload_n hx hb dX9_begin_24 rfl (lv_at hl 2 rfl) ?_
      refine lv_aload_n hx hb dX9_begin_25 rfl (lv_at hl 0 rfl) ?_
      refine zx_get (C := RX9) (T := TX9) (N := 35) F hW wu_X9 (by decide) zx_E43 rfl 5 (by decide) wf_X9_19 rfl dX9_begin_26 ?_
      refine lv_sipush (v := 256) hx hb dX9_begin_29 (by decide) ?_
      refine lv_iload_n hx hb dX9_begin_32 rfl (lv_at hl 1 rfl) ?_
      refine lv_imul hx hb dX9_begin_33 ?_
      refine lv_iload_n hx hb dX9_begin_34 rfl (lv_at hl 3 rfl) ?_
      refine lv_iadd hx hb dX9_begin_35 ?_
      obtain ⟨c8, h⟩ := g_no h
      refine zx_iald (n := 1792) F hW (by decide) zx_E47 c8 dX9_begin_36 ?_
      refine lv_iadd hx hb dX9_begin_37 ?_
      obtain ⟨x9, ex9, h⟩ := g_pin h
      refine zx_nm ex9 ?_
      refine lv_istore_n (lv' := [(2, .int x9), (0, .ref (a 43)), (1, .int v1), (3, .int v3)]) hx hb dX9_begin_38 rfl hl (by decide) rfl (fun ls hl => ?_)
      obtain ⟨x10, ex10, h⟩ := g_pin h
      refine lv_iinc (v := x10) (lv' := [(3, .int x10), (2, .int x9), (0, .ref (a 43)), (1, .int v1)]) hx hb dX9_begin_39 hl (k := 3) rfl (by rw [ex10]; rfl) (by decide) rfl (fun ls hl => ?_)
      refine lv_goto (tgt := 4) hx hb dX9_begin_42 (by decide) ?_
      exact ih v1 x9 x10 S6 h _ _ _ hW hS (lv_sub hl [2, 3, 1, 0] rfl)
set_option maxHeartbeats 4000000 in
set_option maxRecDepth 100000 in
theorem c_X9_begin (l : Launch) (D : va_G) (a : Nat → Nat) (cs : zx_C) (fu : Nat) (p0 : Int32)  (S : St) (r9 : Int32) (S9 : St) (h : f_X9_begin fu p0 S = some (r9, S9)) : Met l yX9_begin (Cond.code yX9_begin cX9_begin 4 none :: zx_tb) ({ frames := 0, cells := 0, slots := 0, locals := 0 }) (zx_P D a cs [.ref (a 43), .int p0] S) (zx_Qv D a cs S9) 0 0 (zx_A a) := by
  refine zx_met (own := RX9) (by decide) (Nat.le_of_ble_eq_true rfl) rfl ?_
  intro p e s m below meth c ls F hr hW hS hl
  have hl : lv_has ls 4 [(0, .ref (a 43)), (1, .int p0)] := hl
  obtain ⟨⟨hx, hb, hml, hown, hts⟩, hlk, hK, hJ, hN⟩ := id F
  unfold f_X9_begin at h
  refine lv_iconst (v := 0) hx hb dX9_begin_0 (by decide) ?_
  refine lv_istore_n (lv' := [(2, .int (0 : Int32)), (0, .ref (a 43)), (1, .int p0)]) hx hb dX9_begin_1 rfl hl (by decide) rfl (fun ls hl => ?_)
  refine lv_iconst (v := 0) hx hb dX9_begin_2 (by decide) ?_
  refine lv_istore_n (lv' := [(3, .int (0 : Int32)), (2, .int (0 : Int32)), (0, .ref (a 43)), (1, .int p0)]) hx hb dX9_begin_3 rfl hl (by decide) rfl (fun ls hl => ?_)
  exact k_X9_begin_L4  F hr   fu p0 (0 : Int32) (0 : Int32) S h _ _ _ hW hS (lv_sub hl [2, 3, 1, 0] rfl)
theorem Y_X9_behind : zx_Y yX9_behind cX9_behind 7 (some (.int)) 5 := ⟨wc_X9_behind, wn_X9, by decide, by decide, by decide +kernel⟩
set_option maxHeartbeats 4000000 in
set_option maxRecDepth 100000 in
theorem c_X9_behind (l : Launch) (D : va_G) (a : Nat → Nat) (cs : zx_C) (p0 : Int32) (p1 : Int32) (p2 : Int32) (p3 : Int32) (p4 : Int32)  (S : St) (r9 : Int32) (S9 : St) (h : f_X9_behind p0 p1 p2 p3 p4 S = some (r9, S9)) : Met l yX9_behind (Cond.code yX9_behind cX9_behind 7 (some (.int)) :: zx_tb) ({ frames := 0, cells := 0, slots := 0, locals := 0 }) (zx_P D a cs [.ref (a 43), .int p0, .int p1, .int p2, .int p3, .int p4] S) (zx_Qi D a cs r9 S9) 0 0 (zx_A a) := by
  refine zx_met (own := RX9) (by decide) (Nat.le_of_ble_eq_true rfl) rfl ?_
  intro p e s m below meth c ls F hr hW hS hl
  have hl : lv_has ls 7 [(0, .ref (a 43)), (1, .int p0), (2, .int p1), (3, .int p2), (4, .int p3), (5, .int p4)] := hl
  obtain ⟨⟨hx, hb, hml, hown, hts⟩, hlk, hK, hJ, hN⟩ := id F
  unfold f_X9_behind at h
  refine lv_iconst (v := 1) hx hb dX9_behind_0 (by decide) ?_
  refine lv_aload_n hx hb dX9_behind_1 rfl (lv_at hl 0 rfl) ?_
  refine zx_get (C := RX9) (T := TX9) (N := 35) F hW wu_X9 (by decide) zx_E43 rfl 4 (by decide) wf_X9_16 rfl dX9_behind_2 ?_
  refine lv_iload_n hx hb dX9_behind_5 rfl (lv_at hl 1 rfl) ?_
  obtain ⟨c1, h⟩ := g_no h
  refine zx_iald (n := 7) F hW (by decide) zx_E46 c1 dX9_behind_6 ?_
  refine lv_ishl hx hb dX9_behind_7 ?_
  obtain ⟨x2, ex2, h⟩ := g_pin h
  refine zx_nm ex2 ?_
  refine lv_istore (lv' := [(6, .int x2), (0, .ref (a 43)), (1, .int p0), (2, .int p1), (3, .int p2), (4, .int p3), (5, .int p4)]) hx hb dX9_behind_8 hl (by decide) rfl (fun ls hl => ?_)
  refine lv_iload_n hx hb dX9_behind_10 rfl (lv_at hl 3 rfl) ?_
  refine lv_if_ne (tgt := 35) hx hb dX9_behind_11 (by decide) (fun c3 => ?_) (fun c3 => ?_)
  · have h := g_f c3 h
    refine lv_aload_n hx hb dX9_behind_35 rfl (lv_at hl 1 rfl) ?_
    refine zx_get (C := RX9) (T := TX9) (N := 35) F hW wu_X9 (by decide) zx_E43 rfl 5 (by decide) wf_X9_19 rfl dX9_behind_36 ?_
    refine lv_sipush (v := 256) hx hb dX9_behind_39 (by decide) ?_
    refine lv_iload_n hx hb dX9_behind_42 rfl (lv_at hl 2 rfl) ?_
    refine lv_imul hx hb dX9_behind_43 ?_
    refine lv_iload hx hb dX9_behind_44 (lv_at hl 6 rfl) ?_
    refine lv_iadd hx hb dX9_behind_46 ?_
    obtain ⟨c4, h⟩ := g_no h
    refine zx_iald (n := 1792) F hW (by decide) zx_E47 c4 dX9_behind_47 ?_
    refine lv_iload hx hb dX9_behind_48 (lv_at hl 5 rfl) ?_
    refine lv_aload_n hx hb dX9_behind_50 rfl (lv_at hl 1 rfl) ?_
    refine zx_get (C := RX9) (T := TX9) (N := 35) F hW wu_X9 (by decide) zx_E43 rfl 4 (by decide) wf_X9_16 rfl dX9_behind_51 ?_
    refine lv_iload_n hx hb dX9_behind_54 rfl (lv_at hl 2 rfl) ?_
    obtain ⟨c5, h⟩ := g_no h
    refine zx_iald (n := 7) F hW (by decide) zx_E46 c5 dX9_behind_55 ?_
    refine lv_ishr hx hb dX9_behind_56 ?_
    refine lv_imul hx hb dX9_behind_57 ?_
    refine lv_iload hx hb dX9_behind_58 (lv_at hl 5 rfl) ?_
    refine lv_iload hx hb dX9_behind_60 (lv_at hl 0 rfl) ?_
    refine lv_iconst (v := 1) hx hb dX9_behind_62 (by decide) ?_
    refine lv_isub hx hb dX9_behind_63 ?_
    refine lv_iand hx hb dX9_behind_64 ?_
    refine lv_iadd hx hb dX9_behind_65 ?_
    refine lv_aload_n hx hb dX9_behind_66 rfl (lv_at hl 1 rfl) ?_
    refine zx_get (C := RX9) (T := TX9) (N := 35) F hW wu_X9 (by decide) zx_E43 rfl 6 (by decide) wf_X9_22 rfl dX9_behind_67 ?_
    refine lv_sipush (v := 256) hx hb dX9_behind_70 (by decide) ?_
    refine lv_iload_n hx hb dX9_behind_73 rfl (lv_at hl 2 rfl) ?_
    refine lv_imul hx hb dX9_behind_74 ?_
    refine lv_iload hx hb dX9_behind_75 (lv_at hl 6 rfl) ?_
    refine lv_iadd hx hb dX9_behind_77 ?_
    obtain ⟨c6, h⟩ := g_no h
    refine zx_iald (n := 1792) F hW (by decide) zx_E48 c6 dX9_behind_78 ?_
    refine lv_isub hx hb dX9_behind_79 ?_
    exact zx_ri F hr hW hS h dX9_behind_80
  · have h := g_t c3 h
    refine lv_aload_n hx hb dX9_behind_14 rfl (lv_at hl 1 rfl) ?_
    refine zx_get (C := RX9) (T := TX9) (N := 35) F hW wu_X9 (by decide) zx_E43 rfl 9 (by decide) wf_X9_33 rfl dX9_behind_15 ?_
    refine lv_sipush (v := 4096) hx hb dX9_behind_18 (by decide) ?_
    refine lv_iconst (v := 3) hx hb dX9_behind_21 (by decide) ?_
    refine lv_iload_n hx hb dX9_behind_22 rfl (lv_at hl 2 rfl) ?_
    refine lv_imul hx hb dX9_behind_23 ?_
    refine lv_iload_n hx hb dX9_behind_24 rfl (lv_at hl 4 rfl) ?_
    refine lv_iadd hx hb dX9_behind_25 ?_
    refine lv_imul hx hb dX9_behind_26 ?_
    refine lv_iload hx hb dX9_behind_27 (lv_at hl 5 rfl) ?_
    refine lv_iadd hx hb dX9_behind_29 ?_
    refine lv_iload hx hb dX9_behind_30 (lv_at hl 0 rfl) ?_
    refine lv_isub hx hb dX9_behind_32 ?_
    obtain ⟨c7, h⟩ := g_no h
    refine zx_iald (n := 86016) F hW (by decide) zx_E51 c7 dX9_behind_33 ?_
    exact zx_ri F hr hW hS h dX9_behind_34
theorem Y_X9_isState : zx_Y yX9_isState cX9_isState 4 (some (.boolean)) 3 := ⟨wc_X9_isState, wn_X9, by decide, by decide, by decide +kernel⟩
set_option maxHeartbeats 4000000 in
set_option maxRecDepth 100000 in
theorem c_X9_isState (l : Launch) (D : va_G) (a : Nat → Nat) (cs : zx_C) (p0 : Int32) (p1 : Int32) (p2 : Int32)  (S : St) (r9 : Int32) (S9 : St) (h : f_X9_isState p0 p1 p2 S = some (r9, S9)) : Met l yX9_isState (Cond.code yX9_isState cX9_isState 4 (some (.boolean)) :: zx_tb) ({ frames := 0, cells := 0, slots := 0, locals := 0 }) (zx_P D a cs [.ref (a 43), .int p0, .int p1, .int p2] S) (zx_Qi D a cs r9 S9) 0 0 (zx_A a) := by
  refine zx_met (own := RX9) (by decide) (Nat.le_of_ble_eq_true rfl) rfl ?_
  intro p e s m below meth c ls F hr hW hS hl
  have hl : lv_has ls 4 [(0, .ref (a 43)), (1, .int p0), (2, .int p1), (3, .int p2)] := hl
  obtain ⟨⟨hx, hb, hml, hown, hts⟩, hlk, hK, hJ, hN⟩ := id F
  unfold f_X9_isState at h
  refine lv_iload_n hx hb dX9_isState_0 rfl (lv_at hl 2 rfl) ?_
  refine lv_if_ne (tgt := 36) hx hb dX9_isState_1 (by decide) (fun c1 => ?_) (fun c1 => ?_)
  · have h := g_f c1 h
    refine lv_iload_n hx hb dX9_isState_36 rfl (lv_at hl 3 rfl) ?_
    refine lv_ldc (v := 8388608) hx hb hown (hts _ wk_X9_118) dX9_isState_37 ?_
    refine lv_icmp_lt (tgt := 46) hx hb dX9_isState_39 (by decide) (fun c2 => ?_) (fun c2 => ?_)
    · have h := g_t c2 h
      refine lv_iconst (v := 0) hx hb dX9_isState_46 (by decide) ?_
      exact zx_rz F hr (by decide) hW hS h dX9_isState_47
    · have h := g_f c2 h
      refine lv_iconst (v := 1) hx hb dX9_isState_42 (by decide) ?_
      refine lv_goto (tgt := 47) hx hb dX9_isState_43 (by decide) ?_
      exact zx_rz F hr (by decide) hW hS h dX9_isState_47
  · have h := g_t c1 h
    refine lv_iload_n hx hb dX9_isState_4 rfl (lv_at hl 3 rfl) ?_
    refine lv_iconst (v := 1) hx hb dX9_isState_5 (by decide) ?_
    refine lv_aload_n hx hb dX9_isState_6 rfl (lv_at hl 0 rfl) ?_
    refine zx_get (C := RX9) (T := TX9) (N := 35) F hW wu_X9 (by decide) zx_E43 rfl 4 (by decide) wf_X9_16 rfl dX9_isState_7 ?_
    refine lv_iload_n hx hb dX9_isState_10 rfl (lv_at hl 1 rfl) ?_
    obtain ⟨c3, h⟩ := g_no h
    refine zx_iald (n := 7) F hW (by decide) zx_E46 c3 dX9_isState_11 ?_
    refine lv_ishl hx hb dX9_isState_12 ?_
    refine lv_icmp_lt (tgt := 32) hx hb dX9_isState_13 (by decide) (fun c4 => ?_) (fun c4 => ?_)
    · have h := g_t c4 h
      refine lv_iconst (v := 0) hx hb dX9_isState_32 (by decide) ?_
      refine lv_goto (tgt := 47) hx hb dX9_isState_33 (by decide) ?_
      exact zx_rz F hr (by decide) hW hS h dX9_isState_47
    · have h := g_f c4 h
      refine lv_iload_n hx hb dX9_isState_16 rfl (lv_at hl 3 rfl) ?_
      refine lv_iconst (v := 2) hx hb dX9_isState_17 (by decide) ?_
      refine lv_aload_n hx hb dX9_isState_18 rfl (lv_at hl 0 rfl) ?_
      refine zx_get (C := RX9) (T := TX9) (N := 35) F hW wu_X9 (by decide) zx_E43 rfl 4 (by decide) wf_X9_16 rfl dX9_isState_19 ?_
      refine lv_iload_n hx hb dX9_isState_22 rfl (lv_at hl 1 rfl) ?_
      obtain ⟨c5, h⟩ := g_no h
      refine zx_iald (n := 7) F hW (by decide) zx_E46 c5 dX9_isState_23 ?_
      refine lv_ishl hx hb dX9_isState_24 ?_
      refine lv_icmp_ge (tgt := 32) hx hb dX9_isState_25 (by decide) (fun c6 => ?_) (fun c6 => ?_)
      · have h := g_t c6 h
        refine lv_iconst (v := 0) hx hb dX9_isState_32 (by decide) ?_
        refine lv_goto (tgt := 47) hx hb dX9_isState_33 (by decide) ?_
        exact zx_rz F hr (by decide) hW hS h dX9_isState_47
      · have h := g_f c6 h
        refine lv_iconst (v := 1) hx hb dX9_isState_28 (by decide) ?_
        refine lv_goto (tgt := 47) hx hb dX9_isState_29 (by decide) ?_
        exact zx_rz F hr (by decide) hW hS h dX9_isState_47
theorem Y_X9_isTable : zx_Y yX9_isTable cX9_isTable 2 (some (.boolean)) 1 := ⟨wc_X9_isTable, wn_X9, by decide, by decide, by decide +kernel⟩
set_option maxHeartbeats 4000000 in
set_option maxRecDepth 100000 in
theorem c_X9_isTable (l : Launch) (D : va_G) (a : Nat → Nat) (cs : zx_C) (p0 : Int32)  (S : St) (r9 : Int32) (S9 : St) (h : f_X9_isTable p0 S = some (r9, S9)) : Met l yX9_isTable (Cond.code yX9_isTable cX9_isTable 2 (some (.boolean)) :: zx_tb) ({ frames := 0, cells := 0, slots := 0, locals := 0 }) (zx_P D a cs [.ref (a 43), .int p0] S) (zx_Qi D a cs r9 S9) 0 0 (zx_A a) := by
  refine zx_met (own := RX9) (by decide) (Nat.le_of_ble_eq_true rfl) rfl ?_
  intro p e s m below meth c ls F hr hW hS hl
  have hl : lv_has ls 2 [(0, .ref (a 43)), (1, .int p0)] := hl
  obtain ⟨⟨hx, hb, hml, hown, hts⟩, hlk, hK, hJ, hN⟩ := id F
  unfold f_X9_isTable at h
  refine lv_iload_n hx hb dX9_isTable_0 rfl (lv_at hl 1 rfl) ?_
  refine lv_if_lt (tgt := 23) hx hb dX9_isTable_1 (by decide) (fun c1 => ?_) (fun c1 => ?_)
  · have h := g_t c1 h
    refine lv_iconst (v := 0) hx hb dX9_isTable_23 (by decide) ?_
    exact zx_rz F hr (by decide) hW hS h dX9_isTable_24
  · have h := g_f c1 h
    refine lv_iload_n hx hb dX9_isTable_4 rfl (lv_at hl 1 rfl) ?_
    refine lv_bipush (v := 6) hx hb dX9_isTable_5 (by decide) ?_
    refine lv_icmp_ge (tgt := 23) hx hb dX9_isTable_7 (by decide) (fun c2 => ?_) (fun c2 => ?_)
    · have h := g_t c2 h
      refine lv_iconst (v := 0) hx hb dX9_isTable_23 (by decide) ?_
      exact zx_rz F hr (by decide) hW hS h dX9_isTable_24
    · have h := g_f c2 h
      refine lv_aload_n hx hb dX9_isTable_10 rfl (lv_at hl 0 rfl) ?_
      refine zx_get (C := RX9) (T := TX9) (N := 35) F hW wu_X9 (by decide) zx_E43 rfl 4 (by decide) wf_X9_16 rfl dX9_isTable_11 ?_
      refine lv_iload_n hx hb dX9_isTable_14 rfl (lv_at hl 1 rfl) ?_
      obtain ⟨c3, h⟩ := g_no h
      refine zx_iald (n := 7) F hW (by decide) zx_E46 c3 dX9_isTable_15 ?_
      refine lv_if_le (tgt := 23) hx hb dX9_isTable_16 (by decide) (fun c4 => ?_) (fun c4 => ?_)
      · have h := g_t c4 h
        refine lv_iconst (v := 0) hx hb dX9_isTable_23 (by decide) ?_
        exact zx_rz F hr (by decide) hW hS h dX9_isTable_24
      · have h := g_f c4 h
        refine lv_iconst (v := 1) hx hb dX9_isTable_19 (by decide) ?_
        refine lv_goto (tgt := 24) hx hb dX9_isTable_20 (by decide) ?_
        exact zx_rz F hr (by decide) hW hS h dX9_isTable_24
theorem Y_X9_isWay : zx_Y yX9_isWay cX9_isWay 2 (some (.boolean)) 2 := ⟨wc_X9_isWay, wn_X9, by decide, by decide, by decide +kernel⟩
set_option maxHeartbeats 4000000 in
set_option maxRecDepth 100000 in
theorem k_X9_isWay_L31 {l : Launch} {D : va_G} {a : Nat → Nat} {cs : zx_C} {p : Program} {e : Env} {s : State} {m : MethodId} {below : List Frame} {meth : Method} {c : Code} {p0 : Int32} {p1 : Int32}  (F : zx_F D a cs p m c cX9_isWay 2 s ([.int p0, .int p1] : List Value).toArray RX9 meth) (hr : meth.sig.returnType = (some (.boolean))) {r9 : Int32} {S9 : St}    (v1 : Int32) (S : St) (h : f_X9_isWay_L31 p0 p1   v1 S = some (r9, S9)) (H : Heap) (locs : List Loc) (ls : Array Slot) (hW : zx_W D a cs S H) (hS : va_S (zx_A a) s.heap H locs) (hl : lv_has ls 2 [(1, .int v1)]) : W p l e ({ frames := 0, cells := 0, slots := 0, locals := 0 }) s m ([.int p0, .int p1] : List Value).toArray below meth c H locs 0 0 (MQ below (zx_Qi D a cs r9 S9) ([.int p0, .int p1] : List Value).toArray s 0 0 (zx_A a)) (F0 m 31 ls []) := by
  obtain ⟨⟨hx, hb, hml, hown, hts⟩, hlk, hK, hJ, hN⟩ := id F
  unfold f_X9_isWay_L31 at h
  refine lv_iload_n hx hb dX9_isWay_31 rfl (lv_at hl 0 rfl) ?_
  refine lv_if_ne (tgt := 39) hx hb dX9_isWay_32 (by decide) (fun c3 => ?_) (fun c3 => ?_)
  · have h := g_f c3 h
    refine lv_iconst (v := 0) hx hb dX9_isWay_39 (by decide) ?_
    exact zx_rz F hr (by decide) hW hS h dX9_isWay_40
  · have h := g_t c3 h
    refine lv_iconst (v := 1) hx hb dX9_isWay_35 (by decide) ?_
    refine lv_goto (tgt := 40) hx hb dX9_isWay_36 (by decide) ?_
    exact zx_rz F hr (by decide) hW hS h dX9_isWay_40
set_option maxHeartbeats 4000000 in
set_option maxRecDepth 100000 in
theorem c_X9_isWay (l : Launch) (D : va_G) (a : Nat → Nat) (cs : zx_C) (p0 : Int32) (p1 : Int32)  (S : St) (r9 : Int32) (S9 : St) (h : f_X9_isWay p0 p1 S = some (r9, S9)) : Met l yX9_isWay (Cond.code yX9_isWay cX9_isWay 2 (some (.boolean)) :: zx_tb) ({ frames := 0, cells := 0, slots := 0, locals := 0 }) (zx_P D a cs [.int p0, .int p1] S) (zx_Qi D a cs r9 S9) 0 0 (zx_A a) := by
  refine zx_met (own := RX9) (by decide) (Nat.le_of_ble_eq_true rfl) rfl ?_
  intro p e s m below meth c ls F hr hW hS hl
  have hl : lv_has ls 2 [(0, .int p0), (1, .int p1)] := hl
  obtain ⟨⟨hx, hb, hml, hown, hts⟩, hlk, hK, hJ, hN⟩ := id F
  unfold f_X9_isWay at h
  refine lv_iload_n hx hb dX9_isWay_0 rfl (lv_at hl 0 rfl) ?_
  refine lv_if_ne (tgt := 21) hx hb dX9_isWay_1 (by decide) (fun c1 => ?_) (fun c1 => ?_)
  · have h := g_f c1 h
    refine lv_iload_n hx hb dX9_isWay_21 rfl (lv_at hl 0 rfl) ?_
    refine lv_iconst (v := 1) hx hb dX9_isWay_22 (by decide) ?_
    refine lv_icmp_eq (tgt := 31) hx hb dX9_isWay_23 (by decide) (fun c2 => ?_) (fun c2 => ?_)
    · have h := g_t c2 h
      exact k_X9_isWay_L31  F hr   p1 S h _ _ _ hW hS (lv_sub hl [1] rfl)
    · have h := g_f c2 h
      refine lv_iload_n hx hb dX9_isWay_26 rfl (lv_at hl 0 rfl) ?_
      refine lv_iconst (v := 2) hx hb dX9_isWay_27 (by decide) ?_
      refine lv_icmp_ne (tgt := 39) hx hb dX9_isWay_28 (by decide) (fun c4 => ?_) (fun c4 => ?_)
      · have h := g_f c4 h
        refine lv_iconst (v := 0) hx hb dX9_isWay_39 (by decide) ?_
        exact zx_rz F hr (by decide) hW hS h dX9_isWay_40
      · have h := g_t c4 h
        exact k_X9_isWay_L31  F hr   p1 S h _ _ _ hW hS (lv_sub hl [1] rfl)
  · have h := g_t c1 h
    refine lv_iload_n hx hb dX9_isWay_4 rfl (lv_at hl 1 rfl) ?_
    refine lv_if_lt (tgt := 17) hx hb dX9_isWay_5 (by decide) (fun c5 => ?_) (fun c5 => ?_)
    · have h := g_t c5 h
      refine lv_iconst (v := 0) hx hb dX9_isWay_17 (by decide) ?_
      refine lv_goto (tgt := 40) hx hb dX9_isWay_18 (by decide) ?_
      exact zx_rz F hr (by decide) hW hS h dX9_isWay_40
    · have h := g_f c5 h
      refine lv_iload_n hx hb dX9_isWay_8 rfl (lv_at hl 1 rfl) ?_
      refine lv_iconst (v := 3) hx hb dX9_isWay_9 (by decide) ?_
      refine lv_icmp_ge (tgt := 17) hx hb dX9_isWay_10 (by decide) (fun c6 => ?_) (fun c6 => ?_)
      · have h := g_t c6 h
        refine lv_iconst (v := 0) hx hb dX9_isWay_17 (by decide) ?_
        refine lv_goto (tgt := 40) hx hb dX9_isWay_18 (by decide) ?_
        exact zx_rz F hr (by decide) hW hS h dX9_isWay_40
      · have h := g_f c6 h
        refine lv_iconst (v := 1) hx hb dX9_isWay_13 (by decide) ?_
        refine lv_goto (tgt := 40) hx hb dX9_isWay_14 (by decide) ?_
        exact zx_rz F hr (by decide) hW hS h dX9_isWay_40
theorem Y_X9_isAhead : zx_Y yX9_isAhead cX9_isAhead 6 (some (.boolean)) 3 := ⟨wc_X9_isAhead, wn_X9, by decide, by decide, by decide +kernel⟩
set_option maxHeartbeats 4000000 in
set_option maxRecDepth 100000 in
theorem c_X9_isAhead (l : Launch) (D : va_G) (a : Nat → Nat) (cs : zx_C) (p0 : Int32) (p1 : Int32) (p2 : Int32)  (S : St) (r9 : Int32) (S9 : St) (h : f_X9_isAhead p0 p1 p2 S = some (r9, S9)) : Met l yX9_isAhead (Cond.code yX9_isAhead cX9_isAhead 6 (some (.boolean)) :: zx_tb) ({ frames := 0, cells := 0, slots := 0, locals := 0 }) (zx_P D a cs [.ref (a 43), .int p0, .int p1, .int p2] S) (zx_Qi D a cs r9 S9) 0 0 (zx_A a) := by
  refine zx_met (own := RX9) (by decide) (Nat.le_of_ble_eq_true rfl) rfl ?_
  intro p e s m below meth c ls F hr hW hS hl
  have hl : lv_has ls 6 [(0, .ref (a 43)), (1, .int p0), (2, .int p1), (3, .int p2)] := hl
  obtain ⟨⟨hx, hb, hml, hown, hts⟩, hlk, hK, hJ, hN⟩ := id F
  unfold f_X9_isAhead at h
  refine lv_iconst (v := 2) hx hb dX9_isAhead_0 (by decide) ?_
  refine lv_aload_n hx hb dX9_isAhead_1 rfl (lv_at hl 0 rfl) ?_
  refine zx_get (C := RX9) (T := TX9) (N := 35) F hW wu_X9 (by decide) zx_E43 rfl 14 (by decide) wf_X9_45 rfl dX9_isAhead_2 ?_
  refine lv_iload_n hx hb dX9_isAhead_5 rfl (lv_at hl 2 rfl) ?_
  obtain ⟨c1, h⟩ := g_no h
  refine zx_iald (n := 256) F hW (by decide) zx_E55 c1 dX9_isAhead_6 ?_
  refine lv_imul hx hb dX9_isAhead_7 ?_
  refine lv_iconst (v := 1) hx hb dX9_isAhead_8 (by decide) ?_
  refine lv_iadd hx hb dX9_isAhead_9 ?_
  refine lv_aload_n hx hb dX9_isAhead_10 rfl (lv_at hl 0 rfl) ?_
  refine zx_get (C := RX9) (T := TX9) (N := 35) F hW wu_X9 (by decide) zx_E43 rfl 5 (by decide) wf_X9_19 rfl dX9_isAhead_11 ?_
  refine lv_sipush (v := 256) hx hb dX9_isAhead_14 (by decide) ?_
  refine lv_iload_n hx hb dX9_isAhead_17 rfl (lv_at hl 1 rfl) ?_
  refine lv_imul hx hb dX9_isAhead_18 ?_
  refine lv_iload_n hx hb dX9_isAhead_19 rfl (lv_at hl 3 rfl) ?_
  refine lv_iadd hx hb dX9_isAhead_20 ?_
  obtain ⟨c2, h⟩ := g_no h
  refine zx_iald (n := 1792) F hW (by decide) zx_E47 c2 dX9_isAhead_21 ?_
  refine lv_imul hx hb dX9_isAhead_22 ?_
  obtain ⟨x3, ex3, h⟩ := g_pin h
  refine zx_nm ex3 ?_
  refine lv_istore (lv' := [(4, .int x3), (0, .ref (a 43)), (1, .int p0), (2, .int p1), (3, .int p2)]) hx hb dX9_isAhead_23 hl (by decide) rfl (fun ls hl => ?_)
  refine lv_iconst (v := 2) hx hb dX9_isAhead_25 (by decide) ?_
  refine lv_aload_n hx hb dX9_isAhead_26 rfl (lv_at hl 1 rfl) ?_
  refine zx_get (C := RX9) (T := TX9) (N := 35) F hW wu_X9 (by decide) zx_E43 rfl 14 (by decide) wf_X9_45 rfl dX9_isAhead_27 ?_
  refine lv_iload_n hx hb dX9_isAhead_30 rfl (lv_at hl 4 rfl) ?_
  obtain ⟨c4, h⟩ := g_no h
  refine zx_iald (n := 256) F hW (by decide) zx_E55 c4 dX9_isAhead_31 ?_
  refine lv_imul hx hb dX9_isAhead_32 ?_
  refine lv_iconst (v := 1) hx hb dX9_isAhead_33 (by decide) ?_
  refine lv_iadd hx hb dX9_isAhead_34 ?_
  refine lv_aload_n hx hb dX9_isAhead_35 rfl (lv_at hl 1 rfl) ?_
  refine zx_get (C := RX9) (T := TX9) (N := 35) F hW wu_X9 (by decide) zx_E43 rfl 5 (by decide) wf_X9_19 rfl dX9_isAhead_36 ?_
  refine lv_sipush (v := 256) hx hb dX9_isAhead_39 (by decide) ?_
  refine lv_iload_n hx hb dX9_isAhead_42 rfl (lv_at hl 2 rfl) ?_
  refine lv_imul hx hb dX9_isAhead_43 ?_
  refine lv_iload_n hx hb dX9_isAhead_44 rfl (lv_at hl 3 rfl) ?_
  refine lv_iadd hx hb dX9_isAhead_45 ?_
  obtain ⟨c5, h⟩ := g_no h
  refine zx_iald (n := 1792) F hW (by decide) zx_E47 c5 dX9_isAhead_46 ?_
  refine lv_imul hx hb dX9_isAhead_47 ?_
  obtain ⟨x6, ex6, h⟩ := g_pin h
  refine zx_nm ex6 ?_
  refine lv_istore (lv' := [(5, .int x6), (4, .int x3), (0, .ref (a 43)), (1, .int p0), (2, .int p1), (3, .int p2)]) hx hb dX9_isAhead_48 hl (by decide) rfl (fun ls hl => ?_)
  refine lv_iload hx hb dX9_isAhead_50 (lv_at hl 1 rfl) ?_
  refine lv_iload hx hb dX9_isAhead_52 (lv_at hl 0 rfl) ?_
  refine lv_icmp_lt (tgt := 69) hx hb dX9_isAhead_54 (by decide) (fun c7 => ?_) (fun c7 => ?_)
  · have h := g_t c7 h
    refine lv_iconst (v := 1) hx hb dX9_isAhead_69 (by decide) ?_
    refine lv_goto (tgt := 74) hx hb dX9_isAhead_70 (by decide) ?_
    exact zx_rz F hr (by decide) hW hS h dX9_isAhead_74
  · have h := g_f c7 h
    refine lv_iload hx hb dX9_isAhead_57 (lv_at hl 1 rfl) ?_
    refine lv_iload hx hb dX9_isAhead_59 (lv_at hl 0 rfl) ?_
    refine lv_icmp_ne (tgt := 73) hx hb dX9_isAhead_61 (by decide) (fun c8 => ?_) (fun c8 => ?_)
    · have h := g_f c8 h
      refine lv_iconst (v := 0) hx hb dX9_isAhead_73 (by decide) ?_
      exact zx_rz F hr (by decide) hW hS h dX9_isAhead_74
    · have h := g_t c8 h
      refine lv_iload_n hx hb dX9_isAhead_64 rfl (lv_at hl 4 rfl) ?_
      refine lv_iload_n hx hb dX9_isAhead_65 rfl (lv_at hl 5 rfl) ?_
      refine lv_icmp_ge (tgt := 73) hx hb dX9_isAhead_66 (by decide) (fun c9 => ?_) (fun c9 => ?_)
      · have h := g_t c9 h
        refine lv_iconst (v := 0) hx hb dX9_isAhead_73 (by decide) ?_
        exact zx_rz F hr (by decide) hW hS h dX9_isAhead_74
      · have h := g_f c9 h
        refine lv_iconst (v := 1) hx hb dX9_isAhead_69 (by decide) ?_
        refine lv_goto (tgt := 74) hx hb dX9_isAhead_70 (by decide) ?_
        exact zx_rz F hr (by decide) hW hS h dX9_isAhead_74
theorem Y_X9_sink : zx_Y yX9_sink cX9_sink 6 none 2 := ⟨wc_X9_sink, wn_X9, by decide, by decide, by decide +kernel⟩
set_option maxHeartbeats 4000000 in
set_option maxRecDepth 100000 in
theorem k_X9_sink_L59 {l : Launch} {D : va_G} {a : Nat → Nat} {cs : zx_C} {p : Program} {e : Env} {s : State} {m : MethodId} {below : List Frame} {meth : Method} {c : Code} {fu : Nat} {p0 : Int32} {p1 : Int32}  (F : zx_F D a cs p m c cX9_sink 6 s ([.ref (a 43), .int p0, .int p1] : List Value).toArray RX9 meth) (hr : meth.sig.returnType = none) {r9 : Int32} {S9 : St} {K2 : Int32 → Int32 → St → Option (Int32 × St)} (hK2 : ∀ (v1 : Int32) (v3 : Int32) (S : St), K2 v1 v3 S = some (r9, S9) → ∀ (H : Heap) (locs : List Loc) (ls : Array Slot), zx_W D a cs S H → va_S (zx_A a) s.heap H locs → lv_has ls 6 [(0, .ref (a 43)), (1, .int v1), (3, .int v3)] → W p l e ({ frames := 1, cells := 0, slots := 0, locals := 25 }) s m ([.ref (a 43), .int p0, .int p1] : List Value).toArray below meth c H locs 0 0 (MQ below (zx_Qv D a cs S9) ([.ref (a 43), .int p0, .int p1] : List Value).toArray s 0 0 (zx_A a)) (F0 m 2 ls []))  (v1 : Int32) (v3 : Int32) (v4 : Int32) (S : St) (h : f_X9_sink_L59 fu p0 p1 K2  v1 v3 v4 S = some (r9, S9)) (H : Heap) (locs : List Loc) (ls : Array Slot) (hW : zx_W D a cs S H) (hS : va_S (zx_A a) s.heap H locs) (hl : lv_has ls 6 [(0, .ref (a 43)), (1, .int v1), (3, .int v3), (4, .int v4)]) : W p l e ({ frames := 1, cells := 0, slots := 0, locals := 25 }) s m ([.ref (a 43), .int p0, .int p1] : List Value).toArray below meth c H locs 0 0 (MQ below (zx_Qv D a cs S9) ([.ref (a 43), .int p0, .int p1] : List Value).toArray s 0 0 (zx_A a)) (F0 m 59 ls []) := by
  obtain ⟨⟨hx, hb, hml, hown, hts⟩, hlk, hK, hJ, hN⟩ := id F
  unfold f_X9_sink_L59 at h
  refine lv_aload_n hx hb dX9_sink_59 rfl (lv_at hl 0 rfl) ?_
  refine lv_iload_n hx hb dX9_sink_60 rfl (lv_at hl 1 rfl) ?_
  refine lv_aload_n hx hb dX9_sink_61 rfl (lv_at hl 0 rfl) ?_
  refine zx_get (C := RX9) (T := TX9) (N := 35) F hW wu_X9 (by decide) zx_E43 rfl 12 (by decide) wf_X9_42 rfl dX9_sink_62 ?_
  refine lv_iload hx hb dX9_sink_65 (lv_at hl 3 rfl) ?_
  obtain ⟨c4, h⟩ := g_no h
  refine zx_iald (n := 256) F hW (by decide) zx_E54 c4 dX9_sink_67 ?_
  refine lv_aload_n hx hb dX9_sink_68 rfl (lv_at hl 0 rfl) ?_
  refine zx_get (C := RX9) (T := TX9) (N := 35) F hW wu_X9 (by decide) zx_E43 rfl 12 (by decide) wf_X9_42 rfl dX9_sink_69 ?_
  refine lv_iload_n hx hb dX9_sink_72 rfl (lv_at hl 2 rfl) ?_
  obtain ⟨c5, h⟩ := g_no h
  refine zx_iald (n := 256) F hW (by decide) zx_E54 c5 dX9_sink_73 ?_
  obtain ⟨r6, S7, h8, h⟩ := g_bd h
  refine zx_ci (zx_runV (q := (RX9, TX9, 35)) (As := [.int v1, .int (S 54 v4.toNatClampNeg), .int (S 54 v3.toNatClampNeg)]) (rest := []) F hW (c_X9_isAhead l D a cs v1 (S 54 v4.toNatClampNeg) (S 54 v3.toNatClampNeg)  S r6 S7 h8) Y_X9_isAhead wi_X9_isAhead ws_X9_isAhead wm_X9_95 ⟨rfl, rfl, Nat.le_of_ble_eq_true rfl, Nat.le_of_ble_eq_true rfl, Nat.le_of_ble_eq_true rfl, Nat.le_of_ble_eq_true rfl⟩ (by decide) zx_E43 rfl rfl hl.1 rfl (Nat.le_of_ble_eq_true rfl) dX9_sink_74) hS (fun H locs hW hS => ?_)
  refine lv_if_ne (tgt := 81) hx hb dX9_sink_77 (by decide) (fun c9 => ?_) (fun c9 => ?_)
  · have h := g_f c9 h
    refine lv_aload_n hx hb dX9_sink_81 rfl (lv_at hl 0 rfl) ?_
    refine zx_get (C := RX9) (T := TX9) (N := 35) F hW wu_X9 (by decide) zx_E43 rfl 12 (by decide) wf_X9_42 rfl dX9_sink_82 ?_
    refine lv_iload hx hb dX9_sink_85 (lv_at hl 3 rfl) ?_
    obtain ⟨c10, h⟩ := g_no h
    refine zx_iald (n := 256) F hW (by decide) zx_E54 c10 dX9_sink_87 ?_
    obtain ⟨x11, ex11, h⟩ := g_pin h
    refine zx_nm ex11 ?_
    refine lv_istore (lv' := [(5, .int x11), (0, .ref (a 43)), (1, .int v1), (3, .int v3), (4, .int v4)]) hx hb dX9_sink_88 hl (by decide) rfl (fun ls hl => ?_)
    refine lv_aload_n hx hb dX9_sink_90 rfl (lv_at hl 1 rfl) ?_
    refine zx_get (C := RX9) (T := TX9) (N := 35) F hW wu_X9 (by decide) zx_E43 rfl 12 (by decide) wf_X9_42 rfl dX9_sink_91 ?_
    refine lv_iload hx hb dX9_sink_94 (lv_at hl 4 rfl) ?_
    refine lv_aload_n hx hb dX9_sink_96 rfl (lv_at hl 1 rfl) ?_
    refine zx_get (C := RX9) (T := TX9) (N := 35) F hW wu_X9 (by decide) zx_E43 rfl 12 (by decide) wf_X9_42 rfl dX9_sink_97 ?_
    refine lv_iload_n hx hb dX9_sink_100 rfl (lv_at hl 3 rfl) ?_
    obtain ⟨c12, h⟩ := g_no h
    refine zx_iald (n := 256) F hW (by decide) zx_E54 c12 dX9_sink_101 ?_
    obtain ⟨c14, h⟩ := g_no h
    obtain ⟨S13, eS13, h⟩ := g_pin h
    refine zx_iast (n := 256) F hW hS (by decide) (fun f => zx_E54) c14 dX9_sink_102 (fun H locs hW hS => ?_)
    have hW : zx_W D a cs S13 H := by rw [eS13]; exact hW
    refine lv_aload_n hx hb dX9_sink_103 rfl (lv_at hl 1 rfl) ?_
    refine zx_get (C := RX9) (T := TX9) (N := 35) F hW wu_X9 (by decide) zx_E43 rfl 12 (by decide) wf_X9_42 rfl dX9_sink_104 ?_
    refine lv_iload_n hx hb dX9_sink_107 rfl (lv_at hl 3 rfl) ?_
    refine lv_iload hx hb dX9_sink_108 (lv_at hl 0 rfl) ?_
    obtain ⟨c16, h⟩ := g_no h
    obtain ⟨S15, eS15, h⟩ := g_pin h
    refine zx_iast (n := 256) F hW hS (by decide) (fun f => zx_E54) c16 dX9_sink_110 (fun H locs hW hS => ?_)
    have hW : zx_W D a cs S15 H := by rw [eS15]; exact hW
    refine lv_iload hx hb dX9_sink_111 (lv_at hl 4 rfl) ?_
    refine lv_istore_n (lv' := [(3, .int v4), (5, .int x11), (0, .ref (a 43)), (1, .int v1), (4, .int v4)]) hx hb dX9_sink_113 rfl hl (by decide) rfl (fun ls hl => ?_)
    refine lv_goto (tgt := 2) hx hb dX9_sink_114 (by decide) ?_
    exact hK2 v1 v4 S15 h _ _ _ hW hS (lv_sub hl [2, 3, 0] rfl)
  · have h := g_t c9 h
    exact zx_rv F hr hW hS h dX9_sink_80
set_option maxHeartbeats 4000000 in
set_option maxRecDepth 100000 in
theorem k_X9_sink_L2 {l : Launch} {D : va_G} {a : Nat → Nat} {cs : zx_C} {p : Program} {e : Env} {s : State} {m : MethodId} {below : List Frame} {meth : Method} {c : Code} {fu : Nat} {p0 : Int32} {p1 : Int32}  (F : zx_F D a cs p m c cX9_sink 6 s ([.ref (a 43), .int p0, .int p1] : List Value).toArray RX9 meth) (hr : meth.sig.returnType = none) {r9 : Int32} {S9 : St}    : ∀ (n : Nat) (v1 : Int32) (v3 : Int32) (S : St), f_X9_sink_L2 fu p0 p1   n v1 v3 S = some (r9, S9) → ∀ (H : Heap) (locs : List Loc) (ls : Array Slot), zx_W D a cs S H → va_S (zx_A a) s.heap H locs → lv_has ls 6 [(0, .ref (a 43)), (1, .int v1), (3, .int v3)] → W p l e ({ frames := 1, cells := 0, slots := 0, locals := 25 }) s m ([.ref (a 43), .int p0, .int p1] : List Value).toArray below meth c H locs 0 0 (MQ below (zx_Qv D a cs S9) ([.ref (a 43), .int p0, .int p1] : List Value).toArray s 0 0 (zx_A a)) (F0 m 2 ls []) := by
  obtain ⟨⟨hx, hb, hml, hown, hts⟩, hlk, hK, hJ, hN⟩ := id F
  intro n
  induction n with
  | zero =>
    intro v1 v3 S h
    exact absurd h (fun q => by cases q)
  | succ n ih =>
    intro v1 v3 S h H locs ls hW hS hl
    rw [f_X9_sink_L2_s] at h
    refine lv_iconst (v := 2) hx hb dX9_sink_2 (by decide) ?_
    refine lv_iload_n hx hb dX9_sink_3 rfl (lv_at hl 2 rfl) ?_
    refine lv_imul hx hb dX9_sink_4 ?_
    refine lv_iconst (v := 1) hx hb dX9_sink_5 (by decide) ?_
    refine lv_iadd hx hb dX9_sink_6 ?_
    refine lv_aload_n hx hb dX9_sink_7 rfl (lv_at hl 0 rfl) ?_
    refine zx_get (C := RX9) (T := TX9) (N := 35) F hW wu_X9 (by decide) zx_E43 rfl 13 (by decide) wf_X9_92 rfl dX9_sink_8 ?_
    refine lv_icmp_ge (tgt := 117) hx hb dX9_sink_11 (by decide) (fun c1 => ?_) (fun c1 => ?_)
    · have h := g_t c1 h
      exact zx_rv F hr hW hS h dX9_sink_117
    · have h := g_f c1 h
      refine lv_iconst (v := 2) hx hb dX9_sink_14 (by decide) ?_
      refine lv_iload_n hx hb dX9_sink_15 rfl (lv_at hl 2 rfl) ?_
      refine lv_imul hx hb dX9_sink_16 ?_
      refine lv_iconst (v := 1) hx hb dX9_sink_17 (by decide) ?_
      refine lv_iadd hx hb dX9_sink_18 ?_
      obtain ⟨x2, ex2, h⟩ := g_pin h
      refine zx_nm ex2 ?_
      refine lv_istore (lv' := [(4, .int x2), (0, .ref (a 43)), (1, .int v1), (3, .int v3)]) hx hb dX9_sink_19 hl (by decide) rfl (fun ls hl => ?_)
      refine lv_iload hx hb dX9_sink_21 (lv_at hl 0 rfl) ?_
      refine lv_iconst (v := 1) hx hb dX9_sink_23 (by decide) ?_
      refine lv_iadd hx hb dX9_sink_24 ?_
      refine lv_aload_n hx hb dX9_sink_25 rfl (lv_at hl 1 rfl) ?_
      refine zx_get (C := RX9) (T := TX9) (N := 35) F hW wu_X9 (by decide) zx_E43 rfl 13 (by decide) wf_X9_92 rfl dX9_sink_26 ?_
      refine lv_icmp_ge (tgt := 59) hx hb dX9_sink_29 (by decide) (fun c3 => ?_) (fun c3 => ?_)
      · have h := g_t c3 h
        exact k_X9_sink_L59  F hr ih  v1 v3 x2 S h _ _ _ hW hS (lv_sub hl [1, 2, 3, 0] rfl)
      · have h := g_f c3 h
        refine lv_aload_n hx hb dX9_sink_32 rfl (lv_at hl 1 rfl) ?_
        refine lv_iload_n hx hb dX9_sink_33 rfl (lv_at hl 2 rfl) ?_
        refine lv_aload_n hx hb dX9_sink_34 rfl (lv_at hl 1 rfl) ?_
        refine zx_get (C := RX9) (T := TX9) (N := 35) F hW wu_X9 (by decide) zx_E43 rfl 12 (by decide) wf_X9_42 rfl dX9_sink_35 ?_
        refine lv_iload hx hb dX9_sink_38 (lv_at hl 0 rfl) ?_
        refine lv_iconst (v := 1) hx hb dX9_sink_40 (by decide) ?_
        refine lv_iadd hx hb dX9_sink_41 ?_
        obtain ⟨c17, h⟩ := g_no h
        refine zx_iald (n := 256) F hW (by decide) zx_E54 c17 dX9_sink_42 ?_
        refine lv_aload_n hx hb dX9_sink_43 rfl (lv_at hl 1 rfl) ?_
        refine zx_get (C := RX9) (T := TX9) (N := 35) F hW wu_X9 (by decide) zx_E43 rfl 12 (by decide) wf_X9_42 rfl dX9_sink_44 ?_
        refine lv_iload hx hb dX9_sink_47 (lv_at hl 0 rfl) ?_
        obtain ⟨c18, h⟩ := g_no h
        refine zx_iald (n := 256) F hW (by decide) zx_E54 c18 dX9_sink_49 ?_
        obtain ⟨r19, S20, h21, h⟩ := g_bd h
        refine zx_ci (zx_runV (q := (RX9, TX9, 35)) (As := [.int v1, .int (S 54 (x2 + (1 : Int32)).toNatClampNeg), .int (S 54 x2.toNatClampNeg)]) (rest := []) F hW (c_X9_isAhead l D a cs v1 (S 54 (x2 + (1 : Int32)).toNatClampNeg) (S 54 x2.toNatClampNeg)  S r19 S20 h21) Y_X9_isAhead wi_X9_isAhead ws_X9_isAhead wm_X9_95 ⟨rfl, rfl, Nat.le_of_ble_eq_true rfl, Nat.le_of_ble_eq_true rfl, Nat.le_of_ble_eq_true rfl, Nat.le_of_ble_eq_true rfl⟩ (by decide) zx_E43 rfl rfl hl.1 rfl (Nat.le_of_ble_eq_true rfl) dX9_sink_50) hS (fun H locs hW hS => ?_)
        refine lv_if_eq (tgt := 59) hx hb dX9_sink_53 (by decide) (fun c22 => ?_) (fun c22 => ?_)
        · have h := g_t c22 h
          exact k_X9_sink_L59  F hr ih  v1 v3 x2 S20 h _ _ _ hW hS (lv_sub hl [1, 2, 3, 0] rfl)
        · have h := g_f c22 h
          obtain ⟨x23, ex23, h⟩ := g_pin h
          refine lv_iinc (v := x23) (lv' := [(4, .int x23), (0, .ref (a 43)), (1, .int v1), (3, .int v3)]) hx hb dX9_sink_56 hl (k := 0) rfl (by rw [ex23]; rfl) (by decide) rfl (fun ls hl => ?_)
          exact k_X9_sink_L59  F hr ih  v1 v3 x23 S20 h _ _ _ hW hS (lv_sub hl [1, 2, 3, 0] rfl)
set_option maxHeartbeats 4000000 in
set_option maxRecDepth 100000 in
theorem c_X9_sink (l : Launch) (D : va_G) (a : Nat → Nat) (cs : zx_C) (fu : Nat) (p0 : Int32) (p1 : Int32)  (S : St) (r9 : Int32) (S9 : St) (h : f_X9_sink fu p0 p1 S = some (r9, S9)) : Met l yX9_sink (Cond.code yX9_sink cX9_sink 6 none :: zx_tb) ({ frames := 1, cells := 0, slots := 0, locals := 25 }) (zx_P D a cs [.ref (a 43), .int p0, .int p1] S) (zx_Qv D a cs S9) 0 0 (zx_A a) := by
  refine zx_met (own := RX9) (by decide) (Nat.le_of_ble_eq_true rfl) rfl ?_
  intro p e s m below meth c ls F hr hW hS hl
  have hl : lv_has ls 6 [(0, .ref (a 43)), (1, .int p0), (2, .int p1)] := hl
  obtain ⟨⟨hx, hb, hml, hown, hts⟩, hlk, hK, hJ, hN⟩ := id F
  unfold f_X9_sink at h
  refine lv_iload_n hx hb dX9_sink_0 rfl (lv_at hl 2 rfl) ?_
  refine lv_istore_n (lv' := [(3, .int p1), (0, .ref (a 43)), (1, .int p0), (2, .int p1)]) hx hb dX9_sink_1 rfl hl (by decide) rfl (fun ls hl => ?_)
  exact k_X9_sink_L2  F hr   fu p0 p1 S h _ _ _ hW hS (lv_sub hl [1, 2, 0] rfl)
theorem Y_X9_even : zx_Y yX9_even cX9_even 6 none 3 := ⟨wc_X9_even, wn_X9, by decide, by decide, by decide +kernel⟩
set_option maxHeartbeats 4000000 in
set_option maxRecDepth 100000 in
theorem k_X9_even_L180 {l : Launch} {D : va_G} {a : Nat → Nat} {cs : zx_C} {p : Program} {e : Env} {s : State} {m : MethodId} {below : List Frame} {meth : Method} {c : Code} {fu : Nat} {p0 : Int32} {p1 : Int32} {p2 : Int32}  (F : zx_F D a cs p m c cX9_even 6 s ([.ref (a 43), .int p0, .int p1, .int p2] : List Value).toArray RX9 meth) (hr : meth.sig.returnType = none) {r9 : Int32} {S9 : St} {K96 : Int32 → Int32 → Int32 → Int32 → St → Option (Int32 × St)} (hK96 : ∀ (v1 : Int32) (v2 : Int32) (v3 : Int32) (v4 : Int32) (S : St), K96 v1 v2 v3 v4 S = some (r9, S9) → ∀ (H : Heap) (locs : List Loc) (ls : Array Slot), zx_W D a cs S H → va_S (zx_A a) s.heap H locs → lv_has ls 6 [(0, .ref (a 43)), (1, .int v1), (2, .int v2), (3, .int v3), (4, .int v4)] → W p l e ({ frames := 2, cells := 0, slots := 0, locals := 50 }) s m ([.ref (a 43), .int p0, .int p1, .int p2] : List Value).toArray below meth c H locs 0 0 (MQ below (zx_Qv D a cs S9) ([.ref (a 43), .int p0, .int p1, .int p2] : List Value).toArray s 0 0 (zx_A a)) (F0 m 96 ls []))  (v1 : Int32) (v2 : Int32) (v3 : Int32) (v4 : Int32) (S : St) (h : f_X9_even_L180 fu p0 p1 p2 K96  v1 v2 v3 v4 S = some (r9, S9)) (H : Heap) (locs : List Loc) (ls : Array Slot) (hW : zx_W D a cs S H) (hS : va_S (zx_A a) s.heap H locs) (hl : lv_has ls 6 [(0, .ref (a 43)), (1, .int v1), (2, .int v2), (3, .int v3), (4, .int v4)]) : W p l e ({ frames := 2, cells := 0, slots := 0, locals := 50 }) s m ([.ref (a 43), .int p0, .int p1, .int p2] : List Value).toArray below meth c H locs 0 0 (MQ below (zx_Qv D a cs S9) ([.ref (a 43), .int p0, .int p1, .int p2] : List Value).toArray s 0 0 (zx_A a)) (F0 m 180 ls []) := by
  obtain ⟨⟨hx, hb, hml, hown, hts⟩, hlk, hK, hJ, hN⟩ := id F
  unfold f_X9_even_L180 at h
  refine lv_aload_n hx hb dX9_even_180 rfl (lv_at hl 0 rfl) ?_
  refine lv_iload_n hx hb dX9_even_181 rfl (lv_at hl 1 rfl) ?_
  refine lv_iconst (v := 0) hx hb dX9_even_182 (by decide) ?_
  obtain ⟨r15, S16, h17, h⟩ := g_bd h
  refine zx_cv (zx_runV (q := (RX9, TX9, 35)) (As := [.int v1, .int (0 : Int32)]) (rest := []) F hW (c_X9_sink l D a cs fu v1 (0 : Int32)  S r15 S16 h17) Y_X9_sink wi_X9_sink ws_X9_sink wm_X9_99 ⟨rfl, rfl, Nat.le_of_ble_eq_true rfl, Nat.le_of_ble_eq_true rfl, Nat.le_of_ble_eq_true rfl, Nat.le_of_ble_eq_true rfl⟩ (by decide) zx_E43 rfl rfl hl.1 rfl (Nat.le_of_ble_eq_true rfl) dX9_even_183) hS (fun H locs hW hS => ?_)
  obtain ⟨x18, ex18, h⟩ := g_pin h
  refine lv_iinc (v := x18) (lv' := [(4, .int x18), (0, .ref (a 43)), (1, .int v1), (2, .int v2), (3, .int v3)]) hx hb dX9_even_186 hl (k := 4) rfl (by rw [ex18]; rfl) (by decide) rfl (fun ls hl => ?_)
  refine lv_goto (tgt := 96) hx hb dX9_even_189 (by decide) ?_
  exact hK96 v1 v2 v3 x18 S16 h _ _ _ hW hS (lv_sub hl [1, 2, 3, 4, 0] rfl)
set_option maxHeartbeats 4000000 in
set_option maxRecDepth 100000 in
theorem k_X9_even_L96 {l : Launch} {D : va_G} {a : Nat → Nat} {cs : zx_C} {p : Program} {e : Env} {s : State} {m : MethodId} {below : List Frame} {meth : Method} {c : Code} {fu : Nat} {p0 : Int32} {p1 : Int32} {p2 : Int32}  (F : zx_F D a cs p m c cX9_even 6 s ([.ref (a 43), .int p0, .int p1, .int p2] : List Value).toArray RX9 meth) (hr : meth.sig.returnType = none) {r9 : Int32} {S9 : St}    : ∀ (n : Nat) (v1 : Int32) (v2 : Int32) (v3 : Int32) (v4 : Int32) (S : St), f_X9_even_L96 fu p0 p1 p2   n v1 v2 v3 v4 S = some (r9, S9) → ∀ (H : Heap) (locs : List Loc) (ls : Array Slot), zx_W D a cs S H → va_S (zx_A a) s.heap H locs → lv_has ls 6 [(0, .ref (a 43)), (1, .int v1), (2, .int v2), (3, .int v3), (4, .int v4)] → W p l e ({ frames := 2, cells := 0, slots := 0, locals := 50 }) s m ([.ref (a 43), .int p0, .int p1, .int p2] : List Value).toArray below meth c H locs 0 0 (MQ below (zx_Qv D a cs S9) ([.ref (a 43), .int p0, .int p1, .int p2] : List Value).toArray s 0 0 (zx_A a)) (F0 m 96 ls []) := by
  obtain ⟨⟨hx, hb, hml, hown, hts⟩, hlk, hK, hJ, hN⟩ := id F
  intro n
  induction n with
  | zero =>
    intro v1 v2 v3 v4 S h
    exact absurd h (fun q => by cases q)
  | succ n ih =>
    intro v1 v2 v3 v4 S h H locs ls hW hS hl
    rw [f_X9_even_L96_s] at h
    refine lv_iload hx hb dX9_even_96 (lv_at hl 4 rfl) ?_
    refine lv_iload_n hx hb dX9_even_98 rfl (lv_at hl 3 rfl) ?_
    refine lv_icmp_ge (tgt := 192) hx hb dX9_even_99 (by decide) (fun c5 => ?_) (fun c5 => ?_)
    · have h := g_t c5 h
      exact zx_rv F hr hW hS h dX9_even_192
    · have h := g_f c5 h
      refine lv_aload_n hx hb dX9_even_102 rfl (lv_at hl 0 rfl) ?_
      refine zx_get (C := RX9) (T := TX9) (N := 35) F hW wu_X9 (by decide) zx_E43 rfl 12 (by decide) wf_X9_42 rfl dX9_even_103 ?_
      refine lv_iconst (v := 0) hx hb dX9_even_106 (by decide) ?_
      refine zx_iald (n := 256) F hW (by decide) zx_E54 (by unfold vp_in; decide) dX9_even_107 ?_
      refine zx_nm (z := (S 54 0)) rfl ?_
      obtain ⟨x6, ex6, h⟩ := g_pin h
      refine zx_nm ex6 ?_
      refine lv_istore (lv' := [(5, .int x6), (0, .ref (a 43)), (1, .int v1), (2, .int v2), (3, .int v3), (4, .int v4)]) hx hb dX9_even_108 hl (by decide) rfl (fun ls hl => ?_)
      refine lv_aload_n hx hb dX9_even_110 rfl (lv_at hl 1 rfl) ?_
      refine zx_get (C := RX9) (T := TX9) (N := 35) F hW wu_X9 (by decide) zx_E43 rfl 8 (by decide) wf_X9_30 rfl dX9_even_111 ?_
      refine lv_iload_n hx hb dX9_even_114 rfl (lv_at hl 3 rfl) ?_
      refine lv_iload hx hb dX9_even_115 (lv_at hl 5 rfl) ?_
      refine lv_iadd hx hb dX9_even_117 ?_
      refine lv_iload hx hb dX9_even_118 (lv_at hl 0 rfl) ?_
      obtain ⟨c8, h⟩ := g_no h
      obtain ⟨S7, eS7, h⟩ := g_pin h
      refine zx_iast (n := 86016) F hW hS (by decide) (fun f => zx_E50) c8 dX9_even_120 (fun H locs hW hS => ?_)
      have hW : zx_W D a cs S7 H := by rw [eS7]; exact hW
      refine lv_aload_n hx hb dX9_even_121 rfl (lv_at hl 1 rfl) ?_
      refine zx_get (C := RX9) (T := TX9) (N := 35) F hW wu_X9 (by decide) zx_E43 rfl 14 (by decide) wf_X9_45 rfl dX9_even_122 ?_
      refine lv_iload hx hb dX9_even_125 (lv_at hl 0 rfl) ?_
      refine lv_dup2_11 hx hb dX9_even_127 rfl rfl ?_
      obtain ⟨c9, h⟩ := g_no h
      refine zx_iald (n := 256) F hW (by decide) zx_E55 c9 dX9_even_128 ?_
      refine lv_iconst (v := 1) hx hb dX9_even_129 (by decide) ?_
      refine lv_iadd hx hb dX9_even_130 ?_
      obtain ⟨c11, h⟩ := g_no h
      obtain ⟨S10, eS10, h⟩ := g_pin h
      refine zx_iast (n := 256) F hW hS (by decide) (fun f => zx_E55) c11 dX9_even_131 (fun H locs hW hS => ?_)
      have hW : zx_W D a cs S10 H := by rw [eS10]; exact hW
      refine lv_aload_n hx hb dX9_even_132 rfl (lv_at hl 1 rfl) ?_
      refine zx_get (C := RX9) (T := TX9) (N := 35) F hW wu_X9 (by decide) zx_E43 rfl 14 (by decide) wf_X9_45 rfl dX9_even_133 ?_
      refine lv_iload hx hb dX9_even_136 (lv_at hl 0 rfl) ?_
      obtain ⟨c12, h⟩ := g_no h
      refine zx_iald (n := 256) F hW (by decide) zx_E55 c12 dX9_even_138 ?_
      refine lv_aload_n hx hb dX9_even_139 rfl (lv_at hl 1 rfl) ?_
      refine zx_get (C := RX9) (T := TX9) (N := 35) F hW wu_X9 (by decide) zx_E43 rfl 5 (by decide) wf_X9_19 rfl dX9_even_140 ?_
      refine lv_sipush (v := 256) hx hb dX9_even_143 (by decide) ?_
      refine lv_iload_n hx hb dX9_even_146 rfl (lv_at hl 2 rfl) ?_
      refine lv_imul hx hb dX9_even_147 ?_
      refine lv_iload hx hb dX9_even_148 (lv_at hl 0 rfl) ?_
      refine lv_iadd hx hb dX9_even_150 ?_
      obtain ⟨c13, h⟩ := g_no h
      refine zx_iald (n := 1792) F hW (by decide) zx_E47 c13 dX9_even_151 ?_
      refine lv_icmp_ne (tgt := 180) hx hb dX9_even_152 (by decide) (fun c14 => ?_) (fun c14 => ?_)
      · have h := g_f c14 h
        exact k_X9_even_L180  F hr ih  v1 v2 v3 v4 S10 h _ _ _ hW hS (lv_sub hl [1, 2, 3, 4, 5] rfl)
      · have h := g_t c14 h
        refine lv_aload_n hx hb dX9_even_155 rfl (lv_at hl 1 rfl) ?_
        refine lv_dup hx hb dX9_even_156 rfl ?_
        refine zx_get (C := RX9) (T := TX9) (N := 35) F hW wu_X9 (by decide) zx_E43 rfl 13 (by decide) wf_X9_92 rfl dX9_even_157 ?_
        refine lv_iconst (v := 1) hx hb dX9_even_160 (by decide) ?_
        refine lv_isub hx hb dX9_even_161 ?_
        obtain ⟨S19, eS19, h⟩ := g_pin h
        refine zx_putv (C := RX9) (T := TX9) (N := 35) F hW hS wu_X9 tyX9_ok nmX9 (by decide) zx_E43 rfl 13 (by decide) wf_X9_92 rfl ((S10 43 13) - (1 : Int32)) rfl rfl (Nat.le_of_ble_eq_true rfl) rfl dX9_even_162 (fun H locs hW hS => ?_)
        have hW : zx_W D a cs S19 H := by rw [eS19]; exact hW
        refine lv_aload_n hx hb dX9_even_165 rfl (lv_at hl 1 rfl) ?_
        refine zx_get (C := RX9) (T := TX9) (N := 35) F hW wu_X9 (by decide) zx_E43 rfl 12 (by decide) wf_X9_42 rfl dX9_even_166 ?_
        refine lv_iconst (v := 0) hx hb dX9_even_169 (by decide) ?_
        refine lv_aload_n hx hb dX9_even_170 rfl (lv_at hl 1 rfl) ?_
        refine zx_get (C := RX9) (T := TX9) (N := 35) F hW wu_X9 (by decide) zx_E43 rfl 12 (by decide) wf_X9_42 rfl dX9_even_171 ?_
        refine lv_aload_n hx hb dX9_even_174 rfl (lv_at hl 1 rfl) ?_
        refine zx_get (C := RX9) (T := TX9) (N := 35) F hW wu_X9 (by decide) zx_E43 rfl 13 (by decide) wf_X9_92 rfl dX9_even_175 ?_
        obtain ⟨c20, h⟩ := g_no h
        refine zx_iald (n := 256) F hW (by decide) zx_E54 c20 dX9_even_178 ?_
        obtain ⟨S21, eS21, h⟩ := g_pin h
        refine zx_iast (n := 256) F hW hS (by decide) (fun f => zx_E54) (by unfold vp_in; decide) dX9_even_179 (fun H locs hW hS => ?_)
        have hW : zx_W D a cs S21 H := by rw [eS21]; exact hW
        exact k_X9_even_L180  F hr ih  v1 v2 v3 v4 S21 h _ _ _ hW hS (lv_sub hl [1, 2, 3, 4, 5] rfl)
set_option maxHeartbeats 4000000 in
set_option maxRecDepth 100000 in
theorem k_X9_even_L75 {l : Launch} {D : va_G} {a : Nat → Nat} {cs : zx_C} {p : Program} {e : Env} {s : State} {m : MethodId} {below : List Frame} {meth : Method} {c : Code} {fu : Nat} {p0 : Int32} {p1 : Int32} {p2 : Int32}  (F : zx_F D a cs p m c cX9_even 6 s ([.ref (a 43), .int p0, .int p1, .int p2] : List Value).toArray RX9 meth) (hr : meth.sig.returnType = none) {r9 : Int32} {S9 : St}    : ∀ (n : Nat) (v1 : Int32) (v2 : Int32) (v3 : Int32) (v4 : Int32) (S : St), f_X9_even_L75 fu p0 p1 p2   n v1 v2 v3 v4 S = some (r9, S9) → ∀ (H : Heap) (locs : List Loc) (ls : Array Slot), zx_W D a cs S H → va_S (zx_A a) s.heap H locs → lv_has ls 6 [(0, .ref (a 43)), (1, .int v1), (2, .int v2), (3, .int v3), (4, .int v4)] → W p l e ({ frames := 2, cells := 0, slots := 0, locals := 50 }) s m ([.ref (a 43), .int p0, .int p1, .int p2] : List Value).toArray below meth c H locs 0 0 (MQ below (zx_Qv D a cs S9) ([.ref (a 43), .int p0, .int p1, .int p2] : List Value).toArray s 0 0 (zx_A a)) (F0 m 75 ls []) := by
  obtain ⟨⟨hx, hb, hml, hown, hts⟩, hlk, hK, hJ, hN⟩ := id F
  intro n
  induction n with
  | zero =>
    intro v1 v2 v3 v4 S h
    exact absurd h (fun q => by cases q)
  | succ n ih =>
    intro v1 v2 v3 v4 S h H locs ls hW hS hl
    rw [f_X9_even_L75_s] at h
    refine lv_iload hx hb dX9_even_75 (lv_at hl 4 rfl) ?_
    refine lv_if_lt (tgt := 93) hx hb dX9_even_77 (by decide) (fun c4 => ?_) (fun c4 => ?_)
    · have h := g_t c4 h
      refine lv_iconst (v := 0) hx hb dX9_even_93 (by decide) ?_
      refine lv_istore (lv' := [(4, .int (0 : Int32)), (0, .ref (a 43)), (1, .int v1), (2, .int v2), (3, .int v3)]) hx hb dX9_even_94 hl (by decide) rfl (fun ls hl => ?_)
      exact k_X9_even_L96  F hr   fu v1 v2 v3 (0 : Int32) S h _ _ _ hW hS (lv_sub hl [1, 2, 3, 4, 0] rfl)
    · have h := g_f c4 h
      refine lv_aload_n hx hb dX9_even_80 rfl (lv_at hl 0 rfl) ?_
      refine lv_iload_n hx hb dX9_even_81 rfl (lv_at hl 1 rfl) ?_
      refine lv_iload hx hb dX9_even_82 (lv_at hl 4 rfl) ?_
      obtain ⟨r22, S23, h24, h⟩ := g_bd h
      refine zx_cv (zx_runV (q := (RX9, TX9, 35)) (As := [.int v1, .int v4]) (rest := []) F hW (c_X9_sink l D a cs fu v1 v4  S r22 S23 h24) Y_X9_sink wi_X9_sink ws_X9_sink wm_X9_99 ⟨rfl, rfl, Nat.le_of_ble_eq_true rfl, Nat.le_of_ble_eq_true rfl, Nat.le_of_ble_eq_true rfl, Nat.le_of_ble_eq_true rfl⟩ (by decide) zx_E43 rfl rfl hl.1 rfl (Nat.le_of_ble_eq_true rfl) dX9_even_84) hS (fun H locs hW hS => ?_)
      obtain ⟨x25, ex25, h⟩ := g_pin h
      refine lv_iinc (v := x25) (lv' := [(4, .int x25), (0, .ref (a 43)), (1, .int v1), (2, .int v2), (3, .int v3)]) hx hb dX9_even_87 hl (k := 4) rfl (by rw [ex25]; rfl) (by decide) rfl (fun ls hl => ?_)
      refine lv_goto (tgt := 75) hx hb dX9_even_90 (by decide) ?_
      exact ih v1 v2 v3 x25 S23 h _ _ _ hW hS (lv_sub hl [1, 2, 3, 4, 0] rfl)
set_option maxHeartbeats 4000000 in
set_option maxRecDepth 100000 in
theorem k_X9_even_L61 {l : Launch} {D : va_G} {a : Nat → Nat} {cs : zx_C} {p : Program} {e : Env} {s : State} {m : MethodId} {below : List Frame} {meth : Method} {c : Code} {fu : Nat} {p0 : Int32} {p1 : Int32} {p2 : Int32}  (F : zx_F D a cs p m c cX9_even 6 s ([.ref (a 43), .int p0, .int p1, .int p2] : List Value).toArray RX9 meth) (hr : meth.sig.returnType = none) {r9 : Int32} {S9 : St} {K8 : Int32 → Int32 → Int32 → Int32 → St → Option (Int32 × St)} (hK8 : ∀ (v1 : Int32) (v2 : Int32) (v3 : Int32) (v4 : Int32) (S : St), K8 v1 v2 v3 v4 S = some (r9, S9) → ∀ (H : Heap) (locs : List Loc) (ls : Array Slot), zx_W D a cs S H → va_S (zx_A a) s.heap H locs → lv_has ls 6 [(0, .ref (a 43)), (1, .int v1), (2, .int v2), (3, .int v3), (4, .int v4)] → W p l e ({ frames := 2, cells := 0, slots := 0, locals := 50 }) s m ([.ref (a 43), .int p0, .int p1, .int p2] : List Value).toArray below meth c H locs 0 0 (MQ below (zx_Qv D a cs S9) ([.ref (a 43), .int p0, .int p1, .int p2] : List Value).toArray s 0 0 (zx_A a)) (F0 m 8 ls []))  (v1 : Int32) (v2 : Int32) (v3 : Int32) (v4 : Int32) (S : St) (h : f_X9_even_L61 fu p0 p1 p2 K8  v1 v2 v3 v4 S = some (r9, S9)) (H : Heap) (locs : List Loc) (ls : Array Slot) (hW : zx_W D a cs S H) (hS : va_S (zx_A a) s.heap H locs) (hl : lv_has ls 6 [(0, .ref (a 43)), (1, .int v1), (2, .int v2), (3, .int v3), (4, .int v4)]) : W p l e ({ frames := 2, cells := 0, slots := 0, locals := 50 }) s m ([.ref (a 43), .int p0, .int p1, .int p2] : List Value).toArray below meth c H locs 0 0 (MQ below (zx_Qv D a cs S9) ([.ref (a 43), .int p0, .int p1, .int p2] : List Value).toArray s 0 0 (zx_A a)) (F0 m 61 ls []) := by
  obtain ⟨⟨hx, hb, hml, hown, hts⟩, hlk, hK, hJ, hN⟩ := id F
  unfold f_X9_even_L61 at h
  obtain ⟨x30, ex30, h⟩ := g_pin h
  refine lv_iinc (v := x30) (lv' := [(4, .int x30), (0, .ref (a 43)), (1, .int v1), (2, .int v2), (3, .int v3)]) hx hb dX9_even_61 hl (k := 4) rfl (by rw [ex30]; rfl) (by decide) rfl (fun ls hl => ?_)
  refine lv_goto (tgt := 8) hx hb dX9_even_64 (by decide) ?_
  exact hK8 v1 v2 v3 x30 S h _ _ _ hW hS (lv_sub hl [1, 2, 3, 4, 0] rfl)
set_option maxHeartbeats 4000000 in
set_option maxRecDepth 100000 in
theorem k_X9_even_L8 {l : Launch} {D : va_G} {a : Nat → Nat} {cs : zx_C} {p : Program} {e : Env} {s : State} {m : MethodId} {below : List Frame} {meth : Method} {c : Code} {fu : Nat} {p0 : Int32} {p1 : Int32} {p2 : Int32}  (F : zx_F D a cs p m c cX9_even 6 s ([.ref (a 43), .int p0, .int p1, .int p2] : List Value).toArray RX9 meth) (hr : meth.sig.returnType = none) {r9 : Int32} {S9 : St}    : ∀ (n : Nat) (v1 : Int32) (v2 : Int32) (v3 : Int32) (v4 : Int32) (S : St), f_X9_even_L8 fu p0 p1 p2   n v1 v2 v3 v4 S = some (r9, S9) → ∀ (H : Heap) (locs : List Loc) (ls : Array Slot), zx_W D a cs S H → va_S (zx_A a) s.heap H locs → lv_has ls 6 [(0, .ref (a 43)), (1, .int v1), (2, .int v2), (3, .int v3), (4, .int v4)] → W p l e ({ frames := 2, cells := 0, slots := 0, locals := 50 }) s m ([.ref (a 43), .int p0, .int p1, .int p2] : List Value).toArray below meth c H locs 0 0 (MQ below (zx_Qv D a cs S9) ([.ref (a 43), .int p0, .int p1, .int p2] : List Value).toArray s 0 0 (zx_A a)) (F0 m 8 ls []) := by
  obtain ⟨⟨hx, hb, hml, hown, hts⟩, hlk, hK, hJ, hN⟩ := id F
  intro n
  induction n with
  | zero =>
    intro v1 v2 v3 v4 S h
    exact absurd h (fun q => by cases q)
  | succ n ih =>
    intro v1 v2 v3 v4 S h H locs ls hW hS hl
    rw [f_X9_even_L8_s] at h
    refine lv_iload hx hb dX9_even_8 (lv_at hl 4 rfl) ?_
    refine lv_sipush (v := 256) hx hb dX9_even_10 (by decide) ?_
    refine lv_icmp_ge (tgt := 67) hx hb dX9_even_13 (by decide) (fun c2 => ?_) (fun c2 => ?_)
    · have h := g_t c2 h
      refine lv_aload_n hx hb dX9_even_67 rfl (lv_at hl 0 rfl) ?_
      refine zx_get (C := RX9) (T := TX9) (N := 35) F hW wu_X9 (by decide) zx_E43 rfl 13 (by decide) wf_X9_92 rfl dX9_even_68 ?_
      refine lv_iconst (v := 2) hx hb dX9_even_71 (by decide) ?_
      refine lv_idiv hx hb dX9_even_72 (by decide) ?_
      obtain ⟨x3, ex3, h⟩ := g_pin h
      refine zx_nm ex3 ?_
      refine lv_istore (lv' := [(4, .int x3), (0, .ref (a 43)), (1, .int v1), (2, .int v2), (3, .int v3)]) hx hb dX9_even_73 hl (by decide) rfl (fun ls hl => ?_)
      exact k_X9_even_L75  F hr   fu v1 v2 v3 x3 S h _ _ _ hW hS (lv_sub hl [1, 2, 3, 4, 0] rfl)
    · have h := g_f c2 h
      refine lv_aload_n hx hb dX9_even_16 rfl (lv_at hl 0 rfl) ?_
      refine zx_get (C := RX9) (T := TX9) (N := 35) F hW wu_X9 (by decide) zx_E43 rfl 14 (by decide) wf_X9_45 rfl dX9_even_17 ?_
      refine lv_iload hx hb dX9_even_20 (lv_at hl 4 rfl) ?_
      refine lv_iconst (v := 0) hx hb dX9_even_22 (by decide) ?_
      obtain ⟨c27, h⟩ := g_no h
      obtain ⟨S26, eS26, h⟩ := g_pin h
      refine zx_iast (n := 256) F hW hS (by decide) (fun f => zx_E55) c27 dX9_even_23 (fun H locs hW hS => ?_)
      have hW : zx_W D a cs S26 H := by rw [eS26]; exact hW
      refine lv_aload_n hx hb dX9_even_24 rfl (lv_at hl 0 rfl) ?_
      refine zx_get (C := RX9) (T := TX9) (N := 35) F hW wu_X9 (by decide) zx_E43 rfl 5 (by decide) wf_X9_19 rfl dX9_even_25 ?_
      refine lv_sipush (v := 256) hx hb dX9_even_28 (by decide) ?_
      refine lv_iload_n hx hb dX9_even_31 rfl (lv_at hl 1 rfl) ?_
      refine lv_imul hx hb dX9_even_32 ?_
      refine lv_iload hx hb dX9_even_33 (lv_at hl 4 rfl) ?_
      refine lv_iadd hx hb dX9_even_35 ?_
      obtain ⟨c28, h⟩ := g_no h
      refine zx_iald (n := 1792) F hW (by decide) zx_E47 c28 dX9_even_36 ?_
      refine lv_if_le (tgt := 61) hx hb dX9_even_37 (by decide) (fun c29 => ?_) (fun c29 => ?_)
      · have h := g_t c29 h
        exact k_X9_even_L61  F hr ih  v1 v2 v3 v4 S26 h _ _ _ hW hS (lv_sub hl [0, 1, 2, 3, 4] rfl)
      · have h := g_f c29 h
        refine lv_aload_n hx hb dX9_even_40 rfl (lv_at hl 0 rfl) ?_
        refine zx_get (C := RX9) (T := TX9) (N := 35) F hW wu_X9 (by decide) zx_E43 rfl 12 (by decide) wf_X9_42 rfl dX9_even_41 ?_
        refine lv_aload_n hx hb dX9_even_44 rfl (lv_at hl 0 rfl) ?_
        refine zx_get (C := RX9) (T := TX9) (N := 35) F hW wu_X9 (by decide) zx_E43 rfl 13 (by decide) wf_X9_92 rfl dX9_even_45 ?_
        refine lv_iload hx hb dX9_even_48 (lv_at hl 4 rfl) ?_
        obtain ⟨c32, h⟩ := g_no h
        obtain ⟨S31, eS31, h⟩ := g_pin h
        refine zx_iast (n := 256) F hW hS (by decide) (fun f => zx_E54) c32 dX9_even_50 (fun H locs hW hS => ?_)
        have hW : zx_W D a cs S31 H := by rw [eS31]; exact hW
        refine lv_aload_n hx hb dX9_even_51 rfl (lv_at hl 0 rfl) ?_
        refine lv_dup hx hb dX9_even_52 rfl ?_
        refine zx_get (C := RX9) (T := TX9) (N := 35) F hW wu_X9 (by decide) zx_E43 rfl 13 (by decide) wf_X9_92 rfl dX9_even_53 ?_
        refine lv_iconst (v := 1) hx hb dX9_even_56 (by decide) ?_
        refine lv_iadd hx hb dX9_even_57 ?_
        obtain ⟨S33, eS33, h⟩ := g_pin h
        refine zx_putv (C := RX9) (T := TX9) (N := 35) F hW hS wu_X9 tyX9_ok nmX9 (by decide) zx_E43 rfl 13 (by decide) wf_X9_92 rfl ((S31 43 13) + (1 : Int32)) rfl rfl (Nat.le_of_ble_eq_true rfl) rfl dX9_even_58 (fun H locs hW hS => ?_)
        have hW : zx_W D a cs S33 H := by rw [eS33]; exact hW
        exact k_X9_even_L61  F hr ih  v1 v2 v3 v4 S33 h _ _ _ hW hS (lv_sub hl [0, 1, 2, 3, 4] rfl)
set_option maxHeartbeats 4000000 in
set_option maxRecDepth 100000 in
theorem c_X9_even (l : Launch) (D : va_G) (a : Nat → Nat) (cs : zx_C) (fu : Nat) (p0 : Int32) (p1 : Int32) (p2 : Int32)  (S : St) (r9 : Int32) (S9 : St) (h : f_X9_even fu p0 p1 p2 S = some (r9, S9)) : Met l yX9_even (Cond.code yX9_even cX9_even 6 none :: zx_tb) ({ frames := 2, cells := 0, slots := 0, locals := 50 }) (zx_P D a cs [.ref (a 43), .int p0, .int p1, .int p2] S) (zx_Qv D a cs S9) 0 0 (zx_A a) := by
  refine zx_met (own := RX9) (by decide) (Nat.le_of_ble_eq_true rfl) rfl ?_
  intro p e s m below meth c ls F hr hW hS hl
  have hl : lv_has ls 6 [(0, .ref (a 43)), (1, .int p0), (2, .int p1), (3, .int p2)] := hl
  obtain ⟨⟨hx, hb, hml, hown, hts⟩, hlk, hK, hJ, hN⟩ := id F
  unfold f_X9_even at h
  refine lv_aload_n hx hb dX9_even_0 rfl (lv_at hl 0 rfl) ?_
  refine lv_iconst (v := 0) hx hb dX9_even_1 (by decide) ?_
  obtain ⟨S1, eS1, h⟩ := g_pin h
  refine zx_putv (C := RX9) (T := TX9) (N := 35) F hW hS wu_X9 tyX9_ok nmX9 (by decide) zx_E43 rfl 13 (by decide) wf_X9_92 rfl (0 : Int32) rfl rfl (Nat.le_of_ble_eq_true rfl) rfl dX9_even_2 (fun H locs hW hS => ?_)
  have hW : zx_W D a cs S1 H := by rw [eS1]; exact hW
  refine lv_iconst (v := 0) hx hb dX9_even_5 (by decide) ?_
  refine lv_istore (lv' := [(4, .int (0 : Int32)), (0, .ref (a 43)), (1, .int p0), (2, .int p1), (3, .int p2)]) hx hb dX9_even_6 hl (by decide) rfl (fun ls hl => ?_)
  exact k_X9_even_L8  F hr   fu p0 p1 p2 (0 : Int32) S1 h _ _ _ hW hS (lv_sub hl [1, 2, 3, 4, 0] rfl)

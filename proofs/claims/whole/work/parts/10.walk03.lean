theorem Y_X1_readPacket : zx_Y yX1_readPacket cX1_readPacket 2 (some (.boolean)) 1 := ⟨wc_X1_readPacket, wn_X1, by decide, by decide, by decide +kernel⟩
set_option maxHeartbeats 4000000 in
set_option maxRecDepth 100000 in
theorem k_X1_readPacket_L62 {l : Launch} {D : va_G} {a : Nat → Nat} {cs : zx_C} {p : Program} {e : Env} {s : State} {m : MethodId} {below : List Frame} {meth : Method} {c : Code} {fu : Nat}   (F : zx_F D a cs p m c cX1_readPacket 2 s ([.ref (a 7), .ref (a 1)] : List Value).toArray RX1 meth) (hr : meth.sig.returnType = (some (.boolean))) {r9 : Int32} {S9 : St}     (S : St) (h : f_X1_readPacket_L62 fu     S = some (r9, S9)) (H : Heap) (locs : List Loc) (ls : Array Slot) (hW : zx_W D a cs S H) (hS : va_S (zx_A a) s.heap H locs) (hl : lv_has ls 2 [(0, .ref (a 7))]) : W p l e ({ frames := 6, cells := 0, slots := 0, locals := 130 }) s m ([.ref (a 7), .ref (a 1)] : List Value).toArray below meth c H locs 0 0 (MQ below (zx_Qi D a cs r9 S9) ([.ref (a 7), .ref (a 1)] : List Value).toArray s 0 0 (zx_A a)) (F0 m 62 ls []) := by
  obtain ⟨⟨hx, hb, hml, hown, hts⟩, hlk, hK, hJ, hN⟩ := id F
  unfold f_X1_readPacket_L62 at h
  refine lv_aload_n hx hb dX1_readPacket_62 rfl (lv_at hl 0 rfl) ?_
  obtain ⟨r18, S19, h20, h⟩ := g_bd h
  refine zx_cv (zx_runV (q := (RX1, TX1, 16)) (As := []) (rest := []) F hW (c_X1_findPayload l D a cs   S r18 S19 h20) Y_X1_findPayload wi_X1_findPayload ws_X1_findPayload wm_X1_95 ⟨rfl, rfl, Nat.le_of_ble_eq_true rfl, Nat.le_of_ble_eq_true rfl, Nat.le_of_ble_eq_true rfl, Nat.le_of_ble_eq_true rfl⟩ (by decide) zx_E7 rfl rfl hl.1 rfl (Nat.le_of_ble_eq_true rfl) dX1_readPacket_63) hS (fun H locs hW hS => ?_)
  refine lv_aload_n hx hb dX1_readPacket_66 rfl (lv_at hl 0 rfl) ?_
  obtain ⟨r21, S22, h23, h⟩ := g_bd h
  refine zx_cv (zx_runV (q := (RX1, TX1, 16)) (As := []) (rest := []) F hW (c_X1_readMessage l D a cs fu   S19 r21 S22 h23) Y_X1_readMessage wi_X1_readMessage ws_X1_readMessage wm_X1_98 ⟨rfl, rfl, Nat.le_of_ble_eq_true rfl, Nat.le_of_ble_eq_true rfl, Nat.le_of_ble_eq_true rfl, Nat.le_of_ble_eq_true rfl⟩ (by decide) zx_E7 rfl rfl hl.1 rfl (Nat.le_of_ble_eq_true rfl) dX1_readPacket_67) hS (fun H locs hW hS => ?_)
  refine lv_aload_n hx hb dX1_readPacket_70 rfl (lv_at hl 0 rfl) ?_
  obtain ⟨r24, S25, h26, h⟩ := g_bd h
  refine zx_cv (zx_runV (q := (RX1, TX1, 16)) (As := []) (rest := []) F hW (c_X1_checkPayloadEnd l D a cs   S22 r24 S25 h26) Y_X1_checkPayloadEnd wi_X1_checkPayloadEnd ws_X1_checkPayloadEnd wm_X1_101 ⟨rfl, rfl, Nat.le_of_ble_eq_true rfl, Nat.le_of_ble_eq_true rfl, Nat.le_of_ble_eq_true rfl, Nat.le_of_ble_eq_true rfl⟩ (by decide) zx_E7 rfl rfl hl.1 rfl (Nat.le_of_ble_eq_true rfl) dX1_readPacket_71) hS (fun H locs hW hS => ?_)
  refine lv_aload_n hx hb dX1_readPacket_74 rfl (lv_at hl 0 rfl) ?_
  obtain ⟨r27, S28, h29, h⟩ := g_bd h
  refine zx_cv (zx_runV (q := (RX1, TX1, 16)) (As := []) (rest := []) F hW (c_X1_checkStates l D a cs fu   S25 r27 S28 h29) Y_X1_checkStates wi_X1_checkStates ws_X1_checkStates wm_X1_104 ⟨rfl, rfl, Nat.le_of_ble_eq_true rfl, Nat.le_of_ble_eq_true rfl, Nat.le_of_ble_eq_true rfl, Nat.le_of_ble_eq_true rfl⟩ (by decide) zx_E7 rfl rfl hl.1 rfl (Nat.le_of_ble_eq_true rfl) dX1_readPacket_75) hS (fun H locs hW hS => ?_)
  refine lv_aload_n hx hb dX1_readPacket_78 rfl (lv_at hl 0 rfl) ?_
  refine lv_null hx hb dX1_readPacket_79 ?_
  obtain ⟨S30, eS30, h⟩ := g_pin h
  refine zx_putv (C := RX1) (T := TX1) (N := 16) F hW hS wu_X1 tyX1_ok nmX1 (by decide) zx_E7 rfl 5 (by decide) wf_X1_40 rfl (0 : Int32) rfl rfl (Nat.le_of_ble_eq_true rfl) rfl dX1_readPacket_80 (fun H locs hW hS => ?_)
  have hW : zx_W D a cs S30 H := by rw [eS30]; exact hW
  refine lv_aload_n hx hb dX1_readPacket_83 rfl (lv_at hl 0 rfl) ?_
  obtain ⟨r31, S32, h33, h⟩ := g_bd h
  refine zx_ci (zx_runV (q := (RX1, TX1, 16)) (As := []) (rest := []) F hW (c_X1_isWhole l D a cs   S30 r31 S32 h33) Y_X1_isWhole wi_X1_isWhole ws_X1_isWhole wm_X1_84 ⟨rfl, rfl, Nat.le_of_ble_eq_true rfl, Nat.le_of_ble_eq_true rfl, Nat.le_of_ble_eq_true rfl, Nat.le_of_ble_eq_true rfl⟩ (by decide) zx_E7 rfl rfl hl.1 rfl (Nat.le_of_ble_eq_true rfl) dX1_readPacket_84) hS (fun H locs hW hS => ?_)
  obtain ⟨c34, h⟩ := g_ok h
  exact zx_rz F hr c34 hW hS h dX1_readPacket_87
set_option maxHeartbeats 4000000 in
set_option maxRecDepth 100000 in
theorem c_X1_readPacket (l : Launch) (D : va_G) (a : Nat → Nat) (cs : zx_C) (fu : Nat)   (S : St) (r9 : Int32) (S9 : St) (h : f_X1_readPacket fu  S = some (r9, S9)) : Met l yX1_readPacket (Cond.code yX1_readPacket cX1_readPacket 2 (some (.boolean)) :: zx_tb) ({ frames := 6, cells := 0, slots := 0, locals := 130 }) (zx_P D a cs [.ref (a 7), .ref (a 1)] S) (zx_Qi D a cs r9 S9) 0 0 (zx_A a) := by
  refine zx_met (own := RX1) (by decide) (Nat.le_of_ble_eq_true rfl) rfl ?_
  intro p e s m below meth c ls F hr hW hS hl
  have hl : lv_has ls 2 [(0, .ref (a 7)), (1, .ref (a 1))] := hl
  obtain ⟨⟨hx, hb, hml, hown, hts⟩, hlk, hK, hJ, hN⟩ := id F
  unfold f_X1_readPacket at h
  refine lv_aload_n hx hb dX1_readPacket_0 rfl (lv_at hl 0 rfl) ?_
  refine lv_aload_n hx hb dX1_readPacket_1 rfl (lv_at hl 1 rfl) ?_
  obtain ⟨S1, eS1, h⟩ := g_pin h
  refine zx_putv (C := RX1) (T := TX1) (N := 16) F hW hS wu_X1 tyX1_ok nmX1 (by decide) zx_E7 rfl 5 (by decide) wf_X1_40 rfl (1 : Int32) rfl rfl (Nat.le_of_ble_eq_true rfl) (by rw [← zx_rfo_1]; rfl) dX1_readPacket_2 (fun H locs hW hS => ?_)
  have hW : zx_W D a cs S1 H := by rw [eS1]; exact hW
  refine lv_aload_n hx hb dX1_readPacket_5 rfl (lv_at hl 0 rfl) ?_
  refine lv_iconst (v := 0) hx hb dX1_readPacket_6 (by decide) ?_
  obtain ⟨S2, eS2, h⟩ := g_pin h
  refine zx_putv (C := RX1) (T := TX1) (N := 16) F hW hS wu_X1 tyX1_ok nmX1 (by decide) zx_E7 rfl 6 (by decide) wf_X1_44 rfl (0 : Int32) rfl rfl (Nat.le_of_ble_eq_true rfl) rfl dX1_readPacket_7 (fun H locs hW hS => ?_)
  have hW : zx_W D a cs S2 H := by rw [eS2]; exact hW
  refine lv_aload_n hx hb dX1_readPacket_10 rfl (lv_at hl 0 rfl) ?_
  refine lv_iconst (v := -1) hx hb dX1_readPacket_11 (by decide) ?_
  obtain ⟨S3, eS3, h⟩ := g_pin h
  refine zx_putv (C := RX1) (T := TX1) (N := 16) F hW hS wu_X1 tyX1_ok nmX1 (by decide) zx_E7 rfl 7 (by decide) wf_X1_48 rfl (-1 : Int32) rfl rfl (Nat.le_of_ble_eq_true rfl) rfl dX1_readPacket_12 (fun H locs hW hS => ?_)
  have hW : zx_W D a cs S3 H := by rw [eS3]; exact hW
  refine lv_aload_n hx hb dX1_readPacket_15 rfl (lv_at hl 0 rfl) ?_
  refine lv_iconst (v := 0) hx hb dX1_readPacket_16 (by decide) ?_
  obtain ⟨S4, eS4, h⟩ := g_pin h
  refine zx_putv (C := RX1) (T := TX1) (N := 16) F hW hS wu_X1 tyX1_ok nmX1 (by decide) zx_E7 rfl 8 (by decide) wf_X1_51 rfl (0 : Int32) rfl rfl (Nat.le_of_ble_eq_true rfl) rfl dX1_readPacket_17 (fun H locs hW hS => ?_)
  have hW : zx_W D a cs S4 H := by rw [eS4]; exact hW
  refine lv_aload_n hx hb dX1_readPacket_20 rfl (lv_at hl 0 rfl) ?_
  obtain ⟨r5, S6, h7, h⟩ := g_bd h
  refine zx_cv (zx_runV (q := (RX1, TX1, 16)) (As := []) (rest := []) F hW (c_X1_readHead l D a cs fu   S4 r5 S6 h7) Y_X1_readHead wi_X1_readHead ws_X1_readHead wm_X1_75 ⟨rfl, rfl, Nat.le_of_ble_eq_true rfl, Nat.le_of_ble_eq_true rfl, Nat.le_of_ble_eq_true rfl, Nat.le_of_ble_eq_true rfl⟩ (by decide) zx_E7 rfl rfl hl.1 rfl (Nat.le_of_ble_eq_true rfl) dX1_readPacket_21) hS (fun H locs hW hS => ?_)
  refine lv_aload_n hx hb dX1_readPacket_24 rfl (lv_at hl 0 rfl) ?_
  obtain ⟨r8, S9, h10, h⟩ := g_bd h
  refine zx_cv (zx_runV (q := (RX1, TX1, 16)) (As := []) (rest := []) F hW (c_X1_readShares l D a cs fu   S6 r8 S9 h10) Y_X1_readShares wi_X1_readShares ws_X1_readShares wm_X1_78 ⟨rfl, rfl, Nat.le_of_ble_eq_true rfl, Nat.le_of_ble_eq_true rfl, Nat.le_of_ble_eq_true rfl, Nat.le_of_ble_eq_true rfl⟩ (by decide) zx_E7 rfl rfl hl.1 rfl (Nat.le_of_ble_eq_true rfl) dX1_readPacket_25) hS (fun H locs hW hS => ?_)
  refine lv_aload_n hx hb dX1_readPacket_28 rfl (lv_at hl 0 rfl) ?_
  obtain ⟨r11, S12, h13, h⟩ := g_bd h
  refine zx_cv (zx_runV (q := (RX1, TX1, 16)) (As := []) (rest := []) F hW (c_X1_readSizes l D a cs fu   S9 r11 S12 h13) Y_X1_readSizes wi_X1_readSizes ws_X1_readSizes wm_X1_81 ⟨rfl, rfl, Nat.le_of_ble_eq_true rfl, Nat.le_of_ble_eq_true rfl, Nat.le_of_ble_eq_true rfl, Nat.le_of_ble_eq_true rfl⟩ (by decide) zx_E7 rfl rfl hl.1 rfl (Nat.le_of_ble_eq_true rfl) dX1_readPacket_29) hS (fun H locs hW hS => ?_)
  refine lv_aload_n hx hb dX1_readPacket_32 rfl (lv_at hl 0 rfl) ?_
  obtain ⟨r14, S15, h16, h⟩ := g_bd h
  refine zx_ci (zx_runV (q := (RX1, TX1, 16)) (As := []) (rest := []) F hW (c_X1_isWhole l D a cs   S12 r14 S15 h16) Y_X1_isWhole wi_X1_isWhole ws_X1_isWhole wm_X1_84 ⟨rfl, rfl, Nat.le_of_ble_eq_true rfl, Nat.le_of_ble_eq_true rfl, Nat.le_of_ble_eq_true rfl, Nat.le_of_ble_eq_true rfl⟩ (by decide) zx_E7 rfl rfl hl.1 rfl (Nat.le_of_ble_eq_true rfl) dX1_readPacket_33) hS (fun H locs hW hS => ?_)
  refine lv_if_eq (tgt := 62) hx hb dX1_readPacket_36 (by decide) (fun c17 => ?_) (fun c17 => ?_)
  · have h := g_t c17 h
    exact k_X1_readPacket_L62  F hr    S15 h _ _ _ hW hS (lv_sub hl [0] rfl)
  · have h := g_f c17 h
    refine lv_aload_n hx hb dX1_readPacket_39 rfl (lv_at hl 0 rfl) ?_
    refine zx_get (C := RX1) (T := TX1) (N := 16) F hW wu_X1 (by decide) zx_E7 rfl 0 (by decide) wf_X1_12 rfl dX1_readPacket_40 ?_
    refine lv_aload_n hx hb dX1_readPacket_43 rfl (lv_at hl 0 rfl) ?_
    obtain ⟨kt36, ekt36, h⟩ := g_pin h
    obtain ⟨hk35, h⟩ := g_ok h
    refine zx_get (C := RX1) (T := TX1) (N := 16) F hW wu_X1 (by decide) zx_E7 rfl 4 (by decide) wf_X1_36 rfl dX1_readPacket_44 ?_
    rw [zx_rfo_tab (by rw [← ekt36]; exact hk35), ← ekt36]
    refine lv_aload_n hx hb dX1_readPacket_47 rfl (lv_at hl 0 rfl) ?_
    refine zx_get (C := RX1) (T := TX1) (N := 16) F hW wu_X1 (by decide) zx_E7 rfl 9 (by decide) wf_X1_54 rfl dX1_readPacket_48 ?_
    refine lv_aload_n hx hb dX1_readPacket_51 rfl (lv_at hl 0 rfl) ?_
    refine zx_get (C := RX1) (T := TX1) (N := 16) F hW wu_X1 (by decide) zx_E7 rfl 10 (by decide) wf_X1_57 rfl dX1_readPacket_52 ?_
    obtain ⟨r37, S38, h39, h⟩ := g_bd h
    refine zx_cv (zx_runV (q := (RX0, TX0, 8)) (As := [.ref (a kt36), .int (S15 7 9), .int (S15 7 10)]) (rest := []) F hW (c_X0_prepare l D a cs fu kt36 (S15 7 9) (S15 7 10) hk35 S15 r37 S38 h39) Y_X0_prepare wi_X0_prepare ws_X0_prepare wm_X1_88 ⟨rfl, rfl, Nat.le_of_ble_eq_true rfl, Nat.le_of_ble_eq_true rfl, Nat.le_of_ble_eq_true rfl, Nat.le_of_ble_eq_true rfl⟩ (by decide) zx_E8 rfl rfl hl.1 rfl (Nat.le_of_ble_eq_true rfl) dX1_readPacket_55) hS (fun H locs hW hS => ?_)
    refine lv_aload_n hx hb dX1_readPacket_58 rfl (lv_at hl 0 rfl) ?_
    obtain ⟨r40, S41, h42, h⟩ := g_bd h
    refine zx_cv (zx_runV (q := (RX1, TX1, 16)) (As := []) (rest := []) F hW (c_X1_readStates l D a cs fu   S38 r40 S41 h42) Y_X1_readStates wi_X1_readStates ws_X1_readStates wm_X1_92 ⟨rfl, rfl, Nat.le_of_ble_eq_true rfl, Nat.le_of_ble_eq_true rfl, Nat.le_of_ble_eq_true rfl, Nat.le_of_ble_eq_true rfl⟩ (by decide) zx_E7 rfl rfl hl.1 rfl (Nat.le_of_ble_eq_true rfl) dX1_readPacket_59) hS (fun H locs hW hS => ?_)
    exact k_X1_readPacket_L62  F hr    S41 h _ _ _ hW hS (lv_sub hl [0] rfl)
theorem Y_X4_add : zx_Y yX4_add cX4_add 2 none 1 := ⟨wc_X4_add, wn_X4, by decide, by decide, by decide +kernel⟩
set_option maxHeartbeats 4000000 in
set_option maxRecDepth 100000 in
theorem c_X4_add (l : Launch) (D : va_G) (a : Nat → Nat) (cs : zx_C) (k : Nat) (p0 : Int32) (hk : zx_row k = true) (S : St) (r9 : Int32) (S9 : St) (h : f_X4_add k p0 S = some (r9, S9)) : Met l yX4_add (Cond.code yX4_add cX4_add 2 none :: zx_tb) ({ frames := 0, cells := 0, slots := 0, locals := 0 }) (zx_P D a cs [.ref (a k), .int p0] S) (zx_Qv D a cs S9) 0 0 (zx_A a) := by
  refine zx_met (own := RX4) (by decide) (Nat.le_of_ble_eq_true rfl) rfl ?_
  intro p e s m below meth c ls F hr hW hS hl
  have hl : lv_has ls 2 [(0, .ref (a k)), (1, .int p0)] := hl
  obtain ⟨⟨hx, hb, hml, hown, hts⟩, hlk, hK, hJ, hN⟩ := id F
  unfold f_X4_add at h
  refine lv_aload_n hx hb dX4_add_0 rfl (lv_at hl 0 rfl) ?_
  refine zx_get (C := RX4) (T := TX4) (N := 2) F hW wu_X4 (zx_row_l hk).1 (zx_row_E hk) rfl 1 (by decide) wf_X4_15 rfl dX4_add_1 ?_
  refine lv_if_lt (tgt := 38) hx hb dX4_add_4 (by decide) (fun c1 => ?_) (fun c1 => ?_)
  · have h := g_t c1 h
    exact zx_rv F hr hW hS h dX4_add_38
  · have h := g_f c1 h
    refine lv_aload_n hx hb dX4_add_7 rfl (lv_at hl 0 rfl) ?_
    refine zx_get (C := RX4) (T := TX4) (N := 2) F hW wu_X4 (zx_row_l hk).1 (zx_row_E hk) rfl 1 (by decide) wf_X4_15 rfl dX4_add_8 ?_
    refine lv_sipush (v := 4000) hx hb dX4_add_11 (by decide) ?_
    refine lv_icmp_ge (tgt := 38) hx hb dX4_add_14 (by decide) (fun c2 => ?_) (fun c2 => ?_)
    · have h := g_t c2 h
      exact zx_rv F hr hW hS h dX4_add_38
    · have h := g_f c2 h
      refine lv_aload_n hx hb dX4_add_17 rfl (lv_at hl 0 rfl) ?_
      refine zx_get (C := RX4) (T := TX4) (N := 2) F hW wu_X4 (zx_row_l hk).1 (zx_row_E hk) rfl 0 (by decide) wf_X4_9 rfl dX4_add_18 ?_
      refine lv_aload_n hx hb dX4_add_21 rfl (lv_at hl 0 rfl) ?_
      refine zx_get (C := RX4) (T := TX4) (N := 2) F hW wu_X4 (zx_row_l hk).1 (zx_row_E hk) rfl 1 (by decide) wf_X4_15 rfl dX4_add_22 ?_
      refine lv_iload_n hx hb dX4_add_25 rfl (lv_at hl 1 rfl) ?_
      refine lv_i2b hx hb dX4_add_26 rfl ?_
      obtain ⟨c4, h⟩ := g_no h
      obtain ⟨S3, eS3, h⟩ := g_pin h
      refine zx_bast (n := 4000) F hW hS (zx_row_l hk).2 (fun f => (zx_row_A hk)) c4 dX4_add_27 (fun H locs hW hS => ?_)
      have hW : zx_W D a cs S3 H := by rw [eS3]; exact hW
      refine lv_aload_n hx hb dX4_add_28 rfl (lv_at hl 0 rfl) ?_
      refine lv_dup hx hb dX4_add_29 rfl ?_
      refine zx_get (C := RX4) (T := TX4) (N := 2) F hW wu_X4 (zx_row_l hk).1 (zx_row_E hk) rfl 1 (by decide) wf_X4_15 rfl dX4_add_30 ?_
      refine lv_iconst (v := 1) hx hb dX4_add_33 (by decide) ?_
      refine lv_iadd hx hb dX4_add_34 ?_
      obtain ⟨S5, eS5, h⟩ := g_pin h
      refine zx_putv (C := RX4) (T := TX4) (N := 2) F hW hS wu_X4 tyX4_ok nmX4 (zx_row_l hk).1 (zx_row_E hk) rfl 1 (by decide) wf_X4_15 rfl ((S3 k 1) + (1 : Int32)) rfl rfl (Nat.le_of_ble_eq_true rfl) (by rw [(zx_row_E hk)]; rfl) dX4_add_35 (fun H locs hW hS => ?_)
      have hW : zx_W D a cs S5 H := by rw [eS5]; exact hW
      exact zx_rv F hr hW hS h dX4_add_38
theorem Y_X1_writeMessage : zx_Y yX1_writeMessage cX1_writeMessage 3 none 1 := ⟨wc_X1_writeMessage, wn_X1, by decide, by decide, by decide +kernel⟩
set_option maxHeartbeats 4000000 in
set_option maxRecDepth 100000 in
theorem k_X1_writeMessage_L7 {l : Launch} {D : va_G} {a : Nat → Nat} {cs : zx_C} {p : Program} {e : Env} {s : State} {m : MethodId} {below : List Frame} {meth : Method} {c : Code} {fu : Nat} {k0 : Nat} (hk0 : zx_row k0 = true) (F : zx_F D a cs p m c cX1_writeMessage 3 s ([.ref (a 7), .ref (a k0)] : List Value).toArray RX1 meth) (hr : meth.sig.returnType = none) {r9 : Int32} {S9 : St}    : ∀ (n : Nat) (v2 : Int32) (S : St), f_X1_writeMessage_L7 fu k0   n v2 S = some (r9, S9) → ∀ (H : Heap) (locs : List Loc) (ls : Array Slot), zx_W D a cs S H → va_S (zx_A a) s.heap H locs → lv_has ls 3 [(0, .ref (a 7)), (1, .ref (a k0)), (2, .int v2)] → W p l e ({ frames := 1, cells := 0, slots := 0, locals := 21 }) s m ([.ref (a 7), .ref (a k0)] : List Value).toArray below meth c H locs 0 0 (MQ below (zx_Qv D a cs S9) ([.ref (a 7), .ref (a k0)] : List Value).toArray s 0 0 (zx_A a)) (F0 m 7 ls []) := by
  obtain ⟨⟨hx, hb, hml, hown, hts⟩, hlk, hK, hJ, hN⟩ := id F
  intro n
  induction n with
  | zero =>
    intro v2 S h
    exact absurd h (fun q => by cases q)
  | succ n ih =>
    intro v2 S h H locs ls hW hS hl
    rw [f_X1_writeMessage_L7_s] at h
    refine lv_iload_n hx hb dX1_writeMessage_7 rfl (lv_at hl 2 rfl) ?_
    refine lv_aload_n hx hb dX1_writeMessage_8 rfl (lv_at hl 0 rfl) ?_
    refine zx_get (C := RX1) (T := TX1) (N := 16) F hW wu_X1 (by decide) zx_E7 rfl 11 (by decide) wf_X1_60 rfl dX1_writeMessage_9 ?_
    refine lv_icmp_ge (tgt := 38) hx hb dX1_writeMessage_12 (by decide) (fun c2 => ?_) (fun c2 => ?_)
    · have h := g_t c2 h
      exact zx_rv F hr hW hS h dX1_writeMessage_38
    · have h := g_f c2 h
      refine lv_iload_n hx hb dX1_writeMessage_15 rfl (lv_at hl 2 rfl) ?_
      refine lv_sipush (v := 1400) hx hb dX1_writeMessage_16 (by decide) ?_
      refine lv_icmp_ge (tgt := 38) hx hb dX1_writeMessage_19 (by decide) (fun c3 => ?_) (fun c3 => ?_)
      · have h := g_t c3 h
        exact zx_rv F hr hW hS h dX1_writeMessage_38
      · have h := g_f c3 h
        refine lv_aload_n hx hb dX1_writeMessage_22 rfl (lv_at hl 1 rfl) ?_
        refine lv_aload_n hx hb dX1_writeMessage_23 rfl (lv_at hl 0 rfl) ?_
        refine zx_get (C := RX1) (T := TX1) (N := 16) F hW wu_X1 (by decide) zx_E7 rfl 3 (by decide) wf_X1_29 rfl dX1_writeMessage_24 ?_
        refine lv_iload_n hx hb dX1_writeMessage_27 rfl (lv_at hl 2 rfl) ?_
        obtain ⟨c4, h⟩ := g_no h
        refine zx_bald (n := 1400) F hW (by decide) zx_E19 c4 dX1_writeMessage_28 ?_
        obtain ⟨r5, S6, h7, h⟩ := g_bd h
        refine zx_cv (zx_runV (q := (RX4, TX4, 2)) (As := [.int (S 19 v2.toNatClampNeg)]) (rest := []) F hW (c_X4_add l D a cs k0 (S 19 v2.toNatClampNeg) hk0 S r5 S6 h7) Y_X4_add wi_X4_add ws_X4_add wm_X1_112 ⟨rfl, rfl, Nat.le_of_ble_eq_true rfl, Nat.le_of_ble_eq_true rfl, Nat.le_of_ble_eq_true rfl, Nat.le_of_ble_eq_true rfl⟩ (zx_row_l hk0).1 (zx_row_E hk0) rfl rfl hl.1 rfl (Nat.le_of_ble_eq_true rfl) dX1_writeMessage_29) hS (fun H locs hW hS => ?_)
        obtain ⟨x8, ex8, h⟩ := g_pin h
        refine lv_iinc (v := x8) (lv' := [(2, .int x8), (0, .ref (a 7)), (1, .ref (a k0))]) hx hb dX1_writeMessage_32 hl (k := 2) rfl (by rw [ex8]; rfl) (by decide) rfl (fun ls hl => ?_)
        refine lv_goto (tgt := 7) hx hb dX1_writeMessage_35 (by decide) ?_
        exact ih x8 S6 h _ _ _ hW hS (lv_sub hl [1, 2, 0] rfl)
set_option maxHeartbeats 4000000 in
set_option maxRecDepth 100000 in
theorem c_X1_writeMessage (l : Launch) (D : va_G) (a : Nat → Nat) (cs : zx_C) (fu : Nat) (k0 : Nat) (hk0 : zx_row k0 = true) (S : St) (r9 : Int32) (S9 : St) (h : f_X1_writeMessage fu k0 S = some (r9, S9)) : Met l yX1_writeMessage (Cond.code yX1_writeMessage cX1_writeMessage 3 none :: zx_tb) ({ frames := 1, cells := 0, slots := 0, locals := 21 }) (zx_P D a cs [.ref (a 7), .ref (a k0)] S) (zx_Qv D a cs S9) 0 0 (zx_A a) := by
  refine zx_met (own := RX1) (by decide) (Nat.le_of_ble_eq_true rfl) rfl ?_
  intro p e s m below meth c ls F hr hW hS hl
  have hl : lv_has ls 3 [(0, .ref (a 7)), (1, .ref (a k0))] := hl
  obtain ⟨⟨hx, hb, hml, hown, hts⟩, hlk, hK, hJ, hN⟩ := id F
  unfold f_X1_writeMessage at h
  refine lv_aload_n hx hb dX1_writeMessage_0 rfl (lv_at hl 1 rfl) ?_
  refine lv_iconst (v := 0) hx hb dX1_writeMessage_1 (by decide) ?_
  obtain ⟨S1, eS1, h⟩ := g_pin h
  refine zx_putv (C := RX4) (T := TX4) (N := 2) F hW hS wu_X4 tyX4_ok nmX4 (zx_row_l hk0).1 (zx_row_E hk0) rfl 1 (by decide) wf_X1_107 rfl (0 : Int32) rfl rfl (Nat.le_of_ble_eq_true rfl) (by rw [(zx_row_E hk0)]; rfl) dX1_writeMessage_2 (fun H locs hW hS => ?_)
  have hW : zx_W D a cs S1 H := by rw [eS1]; exact hW
  refine lv_iconst (v := 0) hx hb dX1_writeMessage_5 (by decide) ?_
  refine lv_istore_n (lv' := [(2, .int (0 : Int32)), (0, .ref (a 7)), (1, .ref (a k0))]) hx hb dX1_writeMessage_6 rfl hl (by decide) rfl (fun ls hl => ?_)
  exact k_X1_writeMessage_L7 hk0 F hr   fu (0 : Int32) S1 h _ _ _ hW hS (lv_sub hl [1, 2, 0] rfl)
theorem Y_X2_codeMessage : zx_Y yX2_codeMessage cX2_codeMessage 5 none 2 := ⟨wc_X2_codeMessage, wn_X2, by decide, by decide, by decide +kernel⟩
set_option maxHeartbeats 4000000 in
set_option maxRecDepth 100000 in
theorem k_X2_codeMessage_L35 {l : Launch} {D : va_G} {a : Nat → Nat} {cs : zx_C} {p : Program} {e : Env} {s : State} {m : MethodId} {below : List Frame} {meth : Method} {c : Code} {fu : Nat} {k1 : Nat} (hk1 : zx_row k1 = true) (F : zx_F D a cs p m c cX2_codeMessage 5 s ([.ref (a 34), .ref (a 8), .ref (a k1)] : List Value).toArray RX2 meth) (hr : meth.sig.returnType = none) {r9 : Int32} {S9 : St}    : ∀ (n : Nat) (v3 : Int32) (S : St), f_X2_codeMessage_L35 fu k1   n v3 S = some (r9, S9) → ∀ (H : Heap) (locs : List Loc) (ls : Array Slot), zx_W D a cs S H → va_S (zx_A a) s.heap H locs → lv_has ls 5 [(0, .ref (a 34)), (1, .ref (a 8)), (2, .ref (a k1)), (3, .int v3)] → W p l e ({ frames := 4, cells := 0, slots := 0, locals := 92 }) s m ([.ref (a 34), .ref (a 8), .ref (a k1)] : List Value).toArray below meth c H locs 0 0 (MQ below (zx_Qv D a cs S9) ([.ref (a 34), .ref (a 8), .ref (a k1)] : List Value).toArray s 0 0 (zx_A a)) (F0 m 35 ls []) := by
  obtain ⟨⟨hx, hb, hml, hown, hts⟩, hlk, hK, hJ, hN⟩ := id F
  intro n
  induction n with
  | zero =>
    intro v3 S h
    exact absurd h (fun q => by cases q)
  | succ n ih =>
    intro v3 S h H locs ls hW hS hl
    rw [f_X2_codeMessage_L35_s] at h
    refine lv_iload_n hx hb dX2_codeMessage_35 rfl (lv_at hl 3 rfl) ?_
    refine lv_if_lt (tgt := 112) hx hb dX2_codeMessage_36 (by decide) (fun c8 => ?_) (fun c8 => ?_)
    · have h := g_t c8 h
      refine lv_aload_n hx hb dX2_codeMessage_112 rfl (lv_at hl 0 rfl) ?_
      refine zx_get (C := RX2) (T := TX2) (N := 3) F hW wu_X2 (by decide) zx_E34 rfl 0 (by decide) wf_X2_12 rfl dX2_codeMessage_113 ?_
      refine lv_aload_n hx hb dX2_codeMessage_116 rfl (lv_at hl 1 rfl) ?_
      refine zx_get (C := RX0) (T := TX0) (N := 8) F hW wu_X0 (by decide) zx_E8 rfl 4 (by decide) wf_X2_75 rfl dX2_codeMessage_117 ?_
      obtain ⟨r9, S10, h11, h⟩ := g_bd h
      refine zx_cv (zx_runV (q := (RX7, TX7, 1)) (As := [.int (S 8 4)]) (rest := []) F hW (c_X7_setBytes l D a cs 35 (S 8 4) (by decide) S r9 S10 h11) Y_X7_setBytes wi_X7_setBytes ws_X7_setBytes wm_X2_78 ⟨rfl, rfl, Nat.le_of_ble_eq_true rfl, Nat.le_of_ble_eq_true rfl, Nat.le_of_ble_eq_true rfl, Nat.le_of_ble_eq_true rfl⟩ (by decide) zx_E35 rfl rfl hl.1 rfl (Nat.le_of_ble_eq_true rfl) dX2_codeMessage_120) hS (fun H locs hW hS => ?_)
      exact zx_rv F hr hW hS h dX2_codeMessage_123
    · have h := g_f c8 h
      refine lv_aload_n hx hb dX2_codeMessage_39 rfl (lv_at hl 1 rfl) ?_
      refine lv_iload_n hx hb dX2_codeMessage_40 rfl (lv_at hl 3 rfl) ?_
      obtain ⟨r12, S13, h14, h⟩ := g_bd h
      refine zx_ci (zx_runV (q := (RX0, TX0, 8)) (As := [.int v3]) (rest := []) F hW (c_X0_turnOf l D a cs v3  S r12 S13 h14) Y_X0_turnOf wi_X0_turnOf ws_X0_turnOf wm_X2_52 ⟨rfl, rfl, Nat.le_of_ble_eq_true rfl, Nat.le_of_ble_eq_true rfl, Nat.le_of_ble_eq_true rfl, Nat.le_of_ble_eq_true rfl⟩ (by decide) zx_E8 rfl rfl hl.1 rfl (Nat.le_of_ble_eq_true rfl) dX2_codeMessage_41) hS (fun H locs hW hS => ?_)
      refine lv_istore (lv' := [(4, .int r12), (0, .ref (a 34)), (1, .ref (a 8)), (2, .ref (a k1)), (3, .int v3)]) hx hb dX2_codeMessage_44 hl (by decide) rfl (fun ls hl => ?_)
      refine lv_aload_n hx hb dX2_codeMessage_46 rfl (lv_at hl 2 rfl) ?_
      refine lv_aload_n hx hb dX2_codeMessage_47 rfl (lv_at hl 1 rfl) ?_
      refine zx_get (C := RX2) (T := TX2) (N := 3) F hW wu_X2 (by decide) zx_E34 rfl 1 (by decide) wf_X2_18 rfl dX2_codeMessage_48 ?_
      refine lv_iload hx hb dX2_codeMessage_51 (lv_at hl 0 rfl) ?_
      obtain ⟨c15, h⟩ := g_no h
      refine zx_iald (n := 2) F hW (by decide) zx_E37 c15 dX2_codeMessage_53 ?_
      refine lv_aload_n hx hb dX2_codeMessage_54 rfl (lv_at hl 3 rfl) ?_
      refine lv_iload_n hx hb dX2_codeMessage_55 rfl (lv_at hl 4 rfl) ?_
      obtain ⟨r16, S17, h18, h⟩ := g_bd h
      refine zx_ci (zx_runV (q := (RX4, TX4, 2)) (As := [.int v3]) (rest := [.int (S13 37 r12.toNatClampNeg), .ref (a 8)]) F hW (c_X4_byteAt l D a cs k1 v3 hk1 S13 r16 S17 h18) Y_X4_byteAt wi_X4_byteAt ws_X4_byteAt wm_X2_56 ⟨rfl, rfl, Nat.le_of_ble_eq_true rfl, Nat.le_of_ble_eq_true rfl, Nat.le_of_ble_eq_true rfl, Nat.le_of_ble_eq_true rfl⟩ (zx_row_l hk1).1 (zx_row_E hk1) rfl rfl hl.1 rfl (Nat.le_of_ble_eq_true rfl) dX2_codeMessage_56) hS (fun H locs hW hS => ?_)
      obtain ⟨r19, S20, h21, h⟩ := g_bd h
      refine zx_cv (zx_runV (q := (RX0, TX0, 8)) (As := [.int (S13 37 r12.toNatClampNeg), .int r16]) (rest := []) F hW (c_X0_advance l D a cs fu (S13 37 r12.toNatClampNeg) r16  S17 r19 S20 h21) Y_X0_advance wi_X0_advance ws_X0_advance wm_X2_59 ⟨rfl, rfl, Nat.le_of_ble_eq_true rfl, Nat.le_of_ble_eq_true rfl, Nat.le_of_ble_eq_true rfl, Nat.le_of_ble_eq_true rfl⟩ (by decide) zx_E8 rfl rfl hl.1 rfl (Nat.le_of_ble_eq_true rfl) dX2_codeMessage_59) hS (fun H locs hW hS => ?_)
      refine lv_aload_n hx hb dX2_codeMessage_62 rfl (lv_at hl 1 rfl) ?_
      refine zx_get (C := RX2) (T := TX2) (N := 3) F hW wu_X2 (by decide) zx_E34 rfl 1 (by decide) wf_X2_18 rfl dX2_codeMessage_63 ?_
      refine lv_iload hx hb dX2_codeMessage_66 (lv_at hl 0 rfl) ?_
      refine lv_aload_n hx hb dX2_codeMessage_68 rfl (lv_at hl 2 rfl) ?_
      refine zx_get (C := RX0) (T := TX0) (N := 8) F hW wu_X0 (by decide) zx_E8 rfl 5 (by decide) wf_X2_63 rfl dX2_codeMessage_69 ?_
      obtain ⟨c23, h⟩ := g_no h
      obtain ⟨S22, eS22, h⟩ := g_pin h
      refine zx_iast (n := 2) F hW hS (by decide) (fun f => zx_E37) c23 dX2_codeMessage_72 (fun H locs hW hS => ?_)
      have hW : zx_W D a cs S22 H := by rw [eS22]; exact hW
      refine lv_aload_n hx hb dX2_codeMessage_73 rfl (lv_at hl 1 rfl) ?_
      refine zx_get (C := RX2) (T := TX2) (N := 3) F hW wu_X2 (by decide) zx_E34 rfl 2 (by decide) wf_X2_22 rfl dX2_codeMessage_74 ?_
      refine lv_iload_n hx hb dX2_codeMessage_77 rfl (lv_at hl 4 rfl) ?_
      refine lv_aload_n hx hb dX2_codeMessage_78 rfl (lv_at hl 2 rfl) ?_
      refine zx_get (C := RX0) (T := TX0) (N := 8) F hW wu_X0 (by decide) zx_E8 rfl 6 (by decide) wf_X2_66 rfl dX2_codeMessage_79 ?_
      refine lv_bipush (v := 16) hx hb dX2_codeMessage_82 (by decide) ?_
      refine lv_ishl hx hb dX2_codeMessage_84 ?_
      refine lv_aload_n hx hb dX2_codeMessage_85 rfl (lv_at hl 2 rfl) ?_
      refine zx_get (C := RX0) (T := TX0) (N := 8) F hW wu_X0 (by decide) zx_E8 rfl 7 (by decide) wf_X2_69 rfl dX2_codeMessage_86 ?_
      refine lv_ior hx hb dX2_codeMessage_89 ?_
      obtain ⟨c25, h⟩ := g_no h
      obtain ⟨S24, eS24, h⟩ := g_pin h
      refine zx_iast (n := 1400) F hW hS (by decide) (fun f => zx_E38) c25 dX2_codeMessage_90 (fun H locs hW hS => ?_)
      have hW : zx_W D a cs S24 H := by rw [eS24]; exact hW
      refine lv_aload_n hx hb dX2_codeMessage_91 rfl (lv_at hl 1 rfl) ?_
      refine zx_get (C := RX2) (T := TX2) (N := 3) F hW wu_X2 (by decide) zx_E34 rfl 0 (by decide) wf_X2_12 rfl dX2_codeMessage_92 ?_
      refine lv_aload_n hx hb dX2_codeMessage_95 rfl (lv_at hl 2 rfl) ?_
      refine zx_get (C := RX0) (T := TX0) (N := 8) F hW wu_X0 (by decide) zx_E8 rfl 5 (by decide) wf_X2_63 rfl dX2_codeMessage_96 ?_
      refine lv_aload_n hx hb dX2_codeMessage_99 rfl (lv_at hl 2 rfl) ?_
      refine zx_get (C := RX0) (T := TX0) (N := 8) F hW wu_X0 (by decide) zx_E8 rfl 6 (by decide) wf_X2_66 rfl dX2_codeMessage_100 ?_
      obtain ⟨r26, S27, h28, h⟩ := g_bd h
      refine zx_cv (zx_runV (q := (RX7, TX7, 1)) (As := [.int (S24 8 5), .int (S24 8 6)]) (rest := []) F hW (c_X7_addSymbol l D a cs 35 (S24 8 5) (S24 8 6) (by decide) S24 r26 S27 h28) Y_X7_addSymbol wi_X7_addSymbol ws_X7_addSymbol wm_X2_72 ⟨rfl, rfl, Nat.le_of_ble_eq_true rfl, Nat.le_of_ble_eq_true rfl, Nat.le_of_ble_eq_true rfl, Nat.le_of_ble_eq_true rfl⟩ (by decide) zx_E35 rfl rfl hl.1 rfl (Nat.le_of_ble_eq_true rfl) dX2_codeMessage_103) hS (fun H locs hW hS => ?_)
      obtain ⟨x29, ex29, h⟩ := g_pin h
      refine lv_iinc (v := x29) (lv' := [(3, .int x29), (4, .int r12), (0, .ref (a 34)), (1, .ref (a 8)), (2, .ref (a k1))]) hx hb dX2_codeMessage_106 hl (k := 4) rfl (by rw [ex29]; rfl) (by decide) rfl (fun ls hl => ?_)
      refine lv_goto (tgt := 35) hx hb dX2_codeMessage_109 (by decide) ?_
      exact ih x29 S27 h _ _ _ hW hS (lv_sub hl [2, 3, 4, 0] rfl)
set_option maxHeartbeats 4000000 in
set_option maxRecDepth 100000 in
theorem c_X2_codeMessage (l : Launch) (D : va_G) (a : Nat → Nat) (cs : zx_C) (fu : Nat) (k1 : Nat) (hk1 : zx_row k1 = true) (S : St) (r9 : Int32) (S9 : St) (h : f_X2_codeMessage fu k1 S = some (r9, S9)) : Met l yX2_codeMessage (Cond.code yX2_codeMessage cX2_codeMessage 5 none :: zx_tb) ({ frames := 4, cells := 0, slots := 0, locals := 92 }) (zx_P D a cs [.ref (a 34), .ref (a 8), .ref (a k1)] S) (zx_Qv D a cs S9) 0 0 (zx_A a) := by
  refine zx_met (own := RX2) (by decide) (Nat.le_of_ble_eq_true rfl) rfl ?_
  intro p e s m below meth c ls F hr hW hS hl
  have hl : lv_has ls 5 [(0, .ref (a 34)), (1, .ref (a 8)), (2, .ref (a k1))] := hl
  obtain ⟨⟨hx, hb, hml, hown, hts⟩, hlk, hK, hJ, hN⟩ := id F
  unfold f_X2_codeMessage at h
  refine lv_aload_n hx hb dX2_codeMessage_0 rfl (lv_at hl 0 rfl) ?_
  refine zx_get (C := RX2) (T := TX2) (N := 3) F hW wu_X2 (by decide) zx_E34 rfl 1 (by decide) wf_X2_18 rfl dX2_codeMessage_1 ?_
  refine lv_aload_n hx hb dX2_codeMessage_4 rfl (lv_at hl 1 rfl) ?_
  refine zx_get (C := RX0) (T := TX0) (N := 8) F hW wu_X0 (by decide) zx_E8 rfl 3 (by decide) wf_X2_25 rfl dX2_codeMessage_5 ?_
  obtain ⟨r1, S2, h3, h⟩ := g_bd h
  refine zx_cv (zx_runS (As := [.ref (a 37), .int (S 8 3)]) (rest := []) F hW (c_J7_fill_53178 l D a cs fu 37 (S 8 3) (by decide) S r1 S2 h3) Y_J7_fill_53178 wt_J7_fill_53178 wm_X2_31 ⟨rfl, rfl, Nat.le_of_ble_eq_true rfl, Nat.le_of_ble_eq_true rfl, Nat.le_of_ble_eq_true rfl, Nat.le_of_ble_eq_true rfl⟩ rfl hl.1 rfl (Nat.le_of_ble_eq_true rfl) dX2_codeMessage_8) hS (fun H locs hW hS => ?_)
  refine lv_aload_n hx hb dX2_codeMessage_11 rfl (lv_at hl 0 rfl) ?_
  refine zx_get (C := RX2) (T := TX2) (N := 3) F hW wu_X2 (by decide) zx_E34 rfl 0 (by decide) wf_X2_12 rfl dX2_codeMessage_12 ?_
  refine lv_aload_n hx hb dX2_codeMessage_15 rfl (lv_at hl 1 rfl) ?_
  refine zx_get (C := RX0) (T := TX0) (N := 8) F hW wu_X0 (by decide) zx_E8 rfl 3 (by decide) wf_X2_25 rfl dX2_codeMessage_16 ?_
  obtain ⟨r4, S5, h6, h⟩ := g_bd h
  refine zx_cv (zx_runV (q := (RX7, TX7, 1)) (As := [.int (S2 8 3)]) (rest := []) F hW (c_X7_begin l D a cs fu 35 (S2 8 3) (by decide) S2 r4 S5 h6) Y_X7_begin wi_X7_begin ws_X7_begin wm_X2_37 ⟨rfl, rfl, Nat.le_of_ble_eq_true rfl, Nat.le_of_ble_eq_true rfl, Nat.le_of_ble_eq_true rfl, Nat.le_of_ble_eq_true rfl⟩ (by decide) zx_E35 rfl rfl hl.1 rfl (Nat.le_of_ble_eq_true rfl) dX2_codeMessage_19) hS (fun H locs hW hS => ?_)
  refine lv_aload_n hx hb dX2_codeMessage_22 rfl (lv_at hl 2 rfl) ?_
  refine zx_get (C := RX4) (T := TX4) (N := 2) F hW wu_X4 (zx_row_l hk1).1 (zx_row_E hk1) rfl 1 (by decide) wf_X2_41 rfl dX2_codeMessage_23 ?_
  refine lv_sipush (v := 1400) hx hb dX2_codeMessage_26 (by decide) ?_
  refine zx_min F hl.1 wm_X2_46 ⟨Nat.le_of_ble_eq_true rfl, Nat.le_of_ble_eq_true rfl⟩ (Nat.le_of_ble_eq_true rfl) dX2_codeMessage_29 ?_
  refine lv_iconst (v := 1) hx hb dX2_codeMessage_32 (by decide) ?_
  refine lv_isub hx hb dX2_codeMessage_33 ?_
  obtain ⟨x7, ex7, h⟩ := g_pin h
  refine zx_nm ex7 ?_
  refine lv_istore_n (lv' := [(3, .int x7), (0, .ref (a 34)), (1, .ref (a 8)), (2, .ref (a k1))]) hx hb dX2_codeMessage_34 rfl hl (by decide) rfl (fun ls hl => ?_)
  exact k_X2_codeMessage_L35 hk1 F hr   fu x7 S5 h _ _ _ hW hS (lv_sub hl [1, 2, 3, 0] rfl)
theorem Y_X2_writePayload : zx_Y yX2_writePayload cX2_writePayload 8 none 2 := ⟨wc_X2_writePayload, wn_X2, by decide, by decide, by decide +kernel⟩
set_option maxHeartbeats 4000000 in
set_option maxRecDepth 100000 in
theorem k_X2_writePayload_L114 {l : Launch} {D : va_G} {a : Nat → Nat} {cs : zx_C} {p : Program} {e : Env} {s : State} {m : MethodId} {below : List Frame} {meth : Method} {c : Code} {fu : Nat} {p0 : Int32} {k1 : Nat} (hk1 : zx_row k1 = true) (F : zx_F D a cs p m c cX2_writePayload 8 s ([.ref (a 34), .int p0, .ref (a k1)] : List Value).toArray RX2 meth) (hr : meth.sig.returnType = none) {r9 : Int32} {S9 : St}    (v4 : Int32) (v5 : Int32) (S : St) (h : f_X2_writePayload_L114 fu p0 k1   v4 v5 S = some (r9, S9)) (H : Heap) (locs : List Loc) (ls : Array Slot) (hW : zx_W D a cs S H) (hS : va_S (zx_A a) s.heap H locs) (hl : lv_has ls 8 [(2, .ref (a k1)), (4, .int v4), (5, .int v5)]) : W p l e ({ frames := 1, cells := 0, slots := 0, locals := 21 }) s m ([.ref (a 34), .int p0, .ref (a k1)] : List Value).toArray below meth c H locs 0 0 (MQ below (zx_Qv D a cs S9) ([.ref (a 34), .int p0, .ref (a k1)] : List Value).toArray s 0 0 (zx_A a)) (F0 m 114 ls []) := by
  obtain ⟨⟨hx, hb, hml, hown, hts⟩, hlk, hK, hJ, hN⟩ := id F
  unfold f_X2_writePayload_L114 at h
  refine lv_iload hx hb dX2_writePayload_114 (lv_at hl 2 rfl) ?_
  refine lv_if_le (tgt := 131) hx hb dX2_writePayload_116 (by decide) (fun c3 => ?_) (fun c3 => ?_)
  · have h := g_t c3 h
    exact zx_rv F hr hW hS h dX2_writePayload_131
  · have h := g_f c3 h
    refine lv_aload_n hx hb dX2_writePayload_119 rfl (lv_at hl 0 rfl) ?_
    refine lv_iload hx hb dX2_writePayload_120 (lv_at hl 1 rfl) ?_
    refine lv_bipush (v := 8) hx hb dX2_writePayload_122 (by decide) ?_
    refine lv_iload hx hb dX2_writePayload_124 (lv_at hl 2 rfl) ?_
    refine lv_isub hx hb dX2_writePayload_126 ?_
    refine lv_ishl hx hb dX2_writePayload_127 ?_
    obtain ⟨r4, S5, h6, h⟩ := g_bd h
    refine zx_cv (zx_runV (q := (RX4, TX4, 2)) (As := [.int (v4 <<< (((8 : Int32) - v5) &&& 31))]) (rest := []) F hW (c_X4_add l D a cs k1 (v4 <<< (((8 : Int32) - v5) &&& 31)) hk1 S r4 S5 h6) Y_X4_add wi_X4_add ws_X4_add wm_X2_81 ⟨rfl, rfl, Nat.le_of_ble_eq_true rfl, Nat.le_of_ble_eq_true rfl, Nat.le_of_ble_eq_true rfl, Nat.le_of_ble_eq_true rfl⟩ (zx_row_l hk1).1 (zx_row_E hk1) rfl rfl hl.1 rfl (Nat.le_of_ble_eq_true rfl) dX2_writePayload_128) hS (fun H locs hW hS => ?_)
    exact zx_rv F hr hW hS h dX2_writePayload_131
set_option maxHeartbeats 4000000 in
set_option maxRecDepth 100000 in
theorem k_X2_writePayload_L102 {l : Launch} {D : va_G} {a : Nat → Nat} {cs : zx_C} {p : Program} {e : Env} {s : State} {m : MethodId} {below : List Frame} {meth : Method} {c : Code} {fu : Nat} {p0 : Int32} {k1 : Nat} (hk1 : zx_row k1 = true) (F : zx_F D a cs p m c cX2_writePayload 8 s ([.ref (a 34), .int p0, .ref (a k1)] : List Value).toArray RX2 meth) (hr : meth.sig.returnType = none) {r9 : Int32} {S9 : St} {K51 : Int32 → Int32 → Int32 → Int32 → Int32 → Int32 → St → Option (Int32 × St)} (hK51 : ∀ (v1 : Int32) (v3 : Int32) (v4 : Int32) (v5 : Int32) (v6 : Int32) (v7 : Int32) (S : St), K51 v1 v3 v4 v5 v6 v7 S = some (r9, S9) → ∀ (H : Heap) (locs : List Loc) (ls : Array Slot), zx_W D a cs S H → va_S (zx_A a) s.heap H locs → lv_has ls 8 [(0, .ref (a 34)), (1, .int v1), (2, .ref (a k1)), (3, .int v3), (4, .int v4), (5, .int v5), (6, .int v6), (7, .int v7)] → W p l e ({ frames := 1, cells := 0, slots := 0, locals := 21 }) s m ([.ref (a 34), .int p0, .ref (a k1)] : List Value).toArray below meth c H locs 0 0 (MQ below (zx_Qv D a cs S9) ([.ref (a 34), .int p0, .ref (a k1)] : List Value).toArray s 0 0 (zx_A a)) (F0 m 51 ls []))  (v1 : Int32) (v3 : Int32) (v4 : Int32) (v5 : Int32) (v6 : Int32) (v7 : Int32) (S : St) (h : f_X2_writePayload_L102 fu p0 k1 K51  v1 v3 v4 v5 v6 v7 S = some (r9, S9)) (H : Heap) (locs : List Loc) (ls : Array Slot) (hW : zx_W D a cs S H) (hS : va_S (zx_A a) s.heap H locs) (hl : lv_has ls 8 [(0, .ref (a 34)), (1, .int v1), (2, .ref (a k1)), (3, .int v3), (4, .int v4), (5, .int v5), (6, .int v6), (7, .int v7)]) : W p l e ({ frames := 1, cells := 0, slots := 0, locals := 21 }) s m ([.ref (a 34), .int p0, .ref (a k1)] : List Value).toArray below meth c H locs 0 0 (MQ below (zx_Qv D a cs S9) ([.ref (a 34), .int p0, .ref (a k1)] : List Value).toArray s 0 0 (zx_A a)) (F0 m 102 ls []) := by
  obtain ⟨⟨hx, hb, hml, hown, hts⟩, hlk, hK, hJ, hN⟩ := id F
  unfold f_X2_writePayload_L102 at h
  obtain ⟨x16, ex16, h⟩ := g_pin h
  refine lv_iinc (v := x16) (lv' := [(7, .int x16), (0, .ref (a 34)), (1, .int v1), (2, .ref (a k1)), (3, .int v3), (4, .int v4), (5, .int v5), (6, .int v6)]) hx hb dX2_writePayload_102 hl (k := 7) rfl (by rw [ex16]; rfl) (by decide) rfl (fun ls hl => ?_)
  refine lv_goto (tgt := 51) hx hb dX2_writePayload_105 (by decide) ?_
  exact hK51 v1 v3 v4 v5 v6 x16 S h _ _ _ hW hS (lv_sub hl [1, 2, 3, 4, 5, 6, 7, 0] rfl)
set_option maxHeartbeats 4000000 in
set_option maxRecDepth 100000 in
theorem k_X2_writePayload_L51 {l : Launch} {D : va_G} {a : Nat → Nat} {cs : zx_C} {p : Program} {e : Env} {s : State} {m : MethodId} {below : List Frame} {meth : Method} {c : Code} {fu : Nat} {p0 : Int32} {k1 : Nat} (hk1 : zx_row k1 = true) (F : zx_F D a cs p m c cX2_writePayload 8 s ([.ref (a 34), .int p0, .ref (a k1)] : List Value).toArray RX2 meth) (hr : meth.sig.returnType = none) {r9 : Int32} {S9 : St} {K15 : Int32 → Int32 → Int32 → Int32 → Int32 → St → Option (Int32 × St)} (hK15 : ∀ (v1 : Int32) (v3 : Int32) (v4 : Int32) (v5 : Int32) (v6 : Int32) (S : St), K15 v1 v3 v4 v5 v6 S = some (r9, S9) → ∀ (H : Heap) (locs : List Loc) (ls : Array Slot), zx_W D a cs S H → va_S (zx_A a) s.heap H locs → lv_has ls 8 [(0, .ref (a 34)), (1, .int v1), (2, .ref (a k1)), (3, .int v3), (4, .int v4), (5, .int v5), (6, .int v6)] → W p l e ({ frames := 1, cells := 0, slots := 0, locals := 21 }) s m ([.ref (a 34), .int p0, .ref (a k1)] : List Value).toArray below meth c H locs 0 0 (MQ below (zx_Qv D a cs S9) ([.ref (a 34), .int p0, .ref (a k1)] : List Value).toArray s 0 0 (zx_A a)) (F0 m 15 ls []))  : ∀ (n : Nat) (v1 : Int32) (v3 : Int32) (v4 : Int32) (v5 : Int32) (v6 : Int32) (v7 : Int32) (S : St), f_X2_writePayload_L51 fu p0 k1 K15  n v1 v3 v4 v5 v6 v7 S = some (r9, S9) → ∀ (H : Heap) (locs : List Loc) (ls : Array Slot), zx_W D a cs S H → va_S (zx_A a) s.heap H locs → lv_has ls 8 [(0, .ref (a 34)), (1, .int v1), (2, .ref (a k1)), (3, .int v3), (4, .int v4), (5, .int v5), (6, .int v6), (7, .int v7)] → W p l e ({ frames := 1, cells := 0, slots := 0, locals := 21 }) s m ([.ref (a 34), .int p0, .ref (a k1)] : List Value).toArray below meth c H locs 0 0 (MQ below (zx_Qv D a cs S9) ([.ref (a 34), .int p0, .ref (a k1)] : List Value).toArray s 0 0 (zx_A a)) (F0 m 51 ls []) := by
  obtain ⟨⟨hx, hb, hml, hown, hts⟩, hlk, hK, hJ, hN⟩ := id F
  intro n
  induction n with
  | zero =>
    intro v1 v3 v4 v5 v6 v7 S h
    exact absurd h (fun q => by cases q)
  | succ n ih =>
    intro v1 v3 v4 v5 v6 v7 S h H locs ls hW hS hl
    rw [f_X2_writePayload_L51_s] at h
    refine lv_iload hx hb dX2_writePayload_51 (lv_at hl 7 rfl) ?_
    refine lv_if_lt (tgt := 108) hx hb dX2_writePayload_53 (by decide) (fun c10 => ?_) (fun c10 => ?_)
    · have h := g_t c10 h
      obtain ⟨x11, ex11, h⟩ := g_pin h
      refine lv_iinc (v := x11) (lv' := [(6, .int x11), (0, .ref (a 34)), (1, .int v1), (2, .ref (a k1)), (3, .int v3), (4, .int v4), (5, .int v5), (7, .int v7)]) hx hb dX2_writePayload_108 hl (k := 6) rfl (by rw [ex11]; rfl) (by decide) rfl (fun ls hl => ?_)
      refine lv_goto (tgt := 15) hx hb dX2_writePayload_111 (by decide) ?_
      exact hK15 v1 v3 v4 v5 x11 S h _ _ _ hW hS (lv_sub hl [1, 2, 3, 4, 5, 6, 0] rfl)
    · have h := g_f c10 h
      refine lv_iload hx hb dX2_writePayload_56 (lv_at hl 4 rfl) ?_
      refine lv_iload_n hx hb dX2_writePayload_58 rfl (lv_at hl 1 rfl) ?_
      refine lv_ishl hx hb dX2_writePayload_59 ?_
      refine lv_aload_n hx hb dX2_writePayload_60 rfl (lv_at hl 0 rfl) ?_
      refine zx_get (C := RX2) (T := TX2) (N := 3) F hW wu_X2 (by decide) zx_E34 rfl 2 (by decide) wf_X2_22 rfl dX2_writePayload_61 ?_
      refine lv_iload hx hb dX2_writePayload_64 (lv_at hl 6 rfl) ?_
      obtain ⟨c12, h⟩ := g_no h
      refine zx_iald (n := 1400) F hW (by decide) zx_E38 c12 dX2_writePayload_66 ?_
      refine lv_iload hx hb dX2_writePayload_67 (lv_at hl 7 rfl) ?_
      refine lv_iload_n hx hb dX2_writePayload_69 rfl (lv_at hl 1 rfl) ?_
      refine lv_imul hx hb dX2_writePayload_70 ?_
      refine lv_ishr hx hb dX2_writePayload_71 ?_
      refine lv_iload_n hx hb dX2_writePayload_72 rfl (lv_at hl 3 rfl) ?_
      refine lv_iand hx hb dX2_writePayload_73 ?_
      refine lv_ior hx hb dX2_writePayload_74 ?_
      obtain ⟨x13, ex13, h⟩ := g_pin h
      refine zx_nm ex13 ?_
      refine lv_istore (lv' := [(4, .int x13), (0, .ref (a 34)), (1, .int v1), (2, .ref (a k1)), (3, .int v3), (5, .int v5), (6, .int v6), (7, .int v7)]) hx hb dX2_writePayload_75 hl (by decide) rfl (fun ls hl => ?_)
      refine lv_iload hx hb dX2_writePayload_77 (lv_at hl 5 rfl) ?_
      refine lv_iload_n hx hb dX2_writePayload_79 rfl (lv_at hl 2 rfl) ?_
      refine lv_iadd hx hb dX2_writePayload_80 ?_
      obtain ⟨x14, ex14, h⟩ := g_pin h
      refine zx_nm ex14 ?_
      refine lv_istore (lv' := [(5, .int x14), (4, .int x13), (0, .ref (a 34)), (1, .int v1), (2, .ref (a k1)), (3, .int v3), (6, .int v6), (7, .int v7)]) hx hb dX2_writePayload_81 hl (by decide) rfl (fun ls hl => ?_)
      refine lv_iload hx hb dX2_writePayload_83 (lv_at hl 0 rfl) ?_
      refine lv_bipush (v := 8) hx hb dX2_writePayload_85 (by decide) ?_
      refine lv_icmp_ne (tgt := 102) hx hb dX2_writePayload_87 (by decide) (fun c15 => ?_) (fun c15 => ?_)
      · have h := g_f c15 h
        exact k_X2_writePayload_L102 hk1 F hr ih  v1 v3 x13 x14 v6 v7 S h _ _ _ hW hS (lv_sub hl [2, 3, 4, 5, 1, 0, 6, 7] rfl)
      · have h := g_t c15 h
        refine lv_aload_n hx hb dX2_writePayload_90 rfl (lv_at hl 4 rfl) ?_
        refine lv_iload hx hb dX2_writePayload_91 (lv_at hl 1 rfl) ?_
        obtain ⟨r17, S18, h19, h⟩ := g_bd h
        refine zx_cv (zx_runV (q := (RX4, TX4, 2)) (As := [.int x13]) (rest := []) F hW (c_X4_add l D a cs k1 x13 hk1 S r17 S18 h19) Y_X4_add wi_X4_add ws_X4_add wm_X2_81 ⟨rfl, rfl, Nat.le_of_ble_eq_true rfl, Nat.le_of_ble_eq_true rfl, Nat.le_of_ble_eq_true rfl, Nat.le_of_ble_eq_true rfl⟩ (zx_row_l hk1).1 (zx_row_E hk1) rfl rfl hl.1 rfl (Nat.le_of_ble_eq_true rfl) dX2_writePayload_93) hS (fun H locs hW hS => ?_)
        refine lv_iconst (v := 0) hx hb dX2_writePayload_96 (by decide) ?_
        refine lv_istore (lv' := [(4, .int (0 : Int32)), (5, .int x14), (0, .ref (a 34)), (1, .int v1), (2, .ref (a k1)), (3, .int v3), (6, .int v6), (7, .int v7)]) hx hb dX2_writePayload_97 hl (by decide) rfl (fun ls hl => ?_)
        refine lv_iconst (v := 0) hx hb dX2_writePayload_99 (by decide) ?_
        refine lv_istore (lv' := [(5, .int (0 : Int32)), (4, .int (0 : Int32)), (0, .ref (a 34)), (1, .int v1), (2, .ref (a k1)), (3, .int v3), (6, .int v6), (7, .int v7)]) hx hb dX2_writePayload_100 hl (by decide) rfl (fun ls hl => ?_)
        exact k_X2_writePayload_L102 hk1 F hr ih  v1 v3 (0 : Int32) (0 : Int32) v6 v7 S18 h _ _ _ hW hS (lv_sub hl [2, 3, 4, 5, 1, 0, 6, 7] rfl)
set_option maxHeartbeats 4000000 in
set_option maxRecDepth 100000 in
theorem k_X2_writePayload_L15 {l : Launch} {D : va_G} {a : Nat → Nat} {cs : zx_C} {p : Program} {e : Env} {s : State} {m : MethodId} {below : List Frame} {meth : Method} {c : Code} {fu : Nat} {p0 : Int32} {k1 : Nat} (hk1 : zx_row k1 = true) (F : zx_F D a cs p m c cX2_writePayload 8 s ([.ref (a 34), .int p0, .ref (a k1)] : List Value).toArray RX2 meth) (hr : meth.sig.returnType = none) {r9 : Int32} {S9 : St}    : ∀ (n : Nat) (v1 : Int32) (v3 : Int32) (v4 : Int32) (v5 : Int32) (v6 : Int32) (S : St), f_X2_writePayload_L15 fu p0 k1   n v1 v3 v4 v5 v6 S = some (r9, S9) → ∀ (H : Heap) (locs : List Loc) (ls : Array Slot), zx_W D a cs S H → va_S (zx_A a) s.heap H locs → lv_has ls 8 [(0, .ref (a 34)), (1, .int v1), (2, .ref (a k1)), (3, .int v3), (4, .int v4), (5, .int v5), (6, .int v6)] → W p l e ({ frames := 1, cells := 0, slots := 0, locals := 21 }) s m ([.ref (a 34), .int p0, .ref (a k1)] : List Value).toArray below meth c H locs 0 0 (MQ below (zx_Qv D a cs S9) ([.ref (a 34), .int p0, .ref (a k1)] : List Value).toArray s 0 0 (zx_A a)) (F0 m 15 ls []) := by
  obtain ⟨⟨hx, hb, hml, hown, hts⟩, hlk, hK, hJ, hN⟩ := id F
  intro n
  induction n with
  | zero =>
    intro v1 v3 v4 v5 v6 S h
    exact absurd h (fun q => by cases q)
  | succ n ih =>
    intro v1 v3 v4 v5 v6 S h H locs ls hW hS hl
    rw [f_X2_writePayload_L15_s] at h
    refine lv_iload hx hb dX2_writePayload_15 (lv_at hl 6 rfl) ?_
    refine lv_aload_n hx hb dX2_writePayload_17 rfl (lv_at hl 0 rfl) ?_
    refine zx_get (C := RX2) (T := TX2) (N := 3) F hW wu_X2 (by decide) zx_E34 rfl 0 (by decide) wf_X2_12 rfl dX2_writePayload_18 ?_
    refine zx_get (C := RX7) (T := TX7) (N := 1) F hW wu_X7 (by decide) zx_E35 rfl 0 (by decide) wf_X2_111 rfl dX2_writePayload_21 ?_
    refine lv_iconst (v := 2) hx hb dX2_writePayload_24 (by decide) ?_
    refine zx_iald (n := 6) F hW (by decide) zx_E36 (by unfold vp_in; decide) dX2_writePayload_25 ?_
    refine zx_nm (z := (S 36 2)) rfl ?_
    refine lv_icmp_ge (tgt := 114) hx hb dX2_writePayload_26 (by decide) (fun c2 => ?_) (fun c2 => ?_)
    · have h := g_t c2 h
      exact k_X2_writePayload_L114 hk1 F hr   v4 v5 S h _ _ _ hW hS (lv_sub hl [2, 4, 5] rfl)
    · have h := g_f c2 h
      refine lv_iload hx hb dX2_writePayload_29 (lv_at hl 6 rfl) ?_
      refine lv_sipush (v := 1400) hx hb dX2_writePayload_31 (by decide) ?_
      refine lv_icmp_ge (tgt := 114) hx hb dX2_writePayload_34 (by decide) (fun c7 => ?_) (fun c7 => ?_)
      · have h := g_t c7 h
        exact k_X2_writePayload_L114 hk1 F hr   v4 v5 S h _ _ _ hW hS (lv_sub hl [2, 4, 5] rfl)
      · have h := g_f c7 h
        refine lv_aload_n hx hb dX2_writePayload_37 rfl (lv_at hl 0 rfl) ?_
        refine zx_get (C := RX2) (T := TX2) (N := 3) F hW wu_X2 (by decide) zx_E34 rfl 2 (by decide) wf_X2_22 rfl dX2_writePayload_38 ?_
        refine lv_iload hx hb dX2_writePayload_41 (lv_at hl 6 rfl) ?_
        obtain ⟨c8, h⟩ := g_no h
        refine zx_iald (n := 1400) F hW (by decide) zx_E38 c8 dX2_writePayload_43 ?_
        refine lv_bipush (v := 16) hx hb dX2_writePayload_44 (by decide) ?_
        refine lv_ishr hx hb dX2_writePayload_46 ?_
        refine lv_iconst (v := 1) hx hb dX2_writePayload_47 (by decide) ?_
        refine lv_isub hx hb dX2_writePayload_48 ?_
        obtain ⟨x9, ex9, h⟩ := g_pin h
        refine zx_nm ex9 ?_
        refine lv_istore (lv' := [(7, .int x9), (0, .ref (a 34)), (1, .int v1), (2, .ref (a k1)), (3, .int v3), (4, .int v4), (5, .int v5), (6, .int v6)]) hx hb dX2_writePayload_49 hl (by decide) rfl (fun ls hl => ?_)
        exact k_X2_writePayload_L51 hk1 F hr ih  fu v1 v3 v4 v5 v6 x9 S h _ _ _ hW hS (lv_sub hl [1, 2, 3, 4, 5, 6, 7, 0] rfl)
set_option maxHeartbeats 4000000 in
set_option maxRecDepth 100000 in
theorem c_X2_writePayload (l : Launch) (D : va_G) (a : Nat → Nat) (cs : zx_C) (fu : Nat) (p0 : Int32) (k1 : Nat) (hk1 : zx_row k1 = true) (S : St) (r9 : Int32) (S9 : St) (h : f_X2_writePayload fu p0 k1 S = some (r9, S9)) : Met l yX2_writePayload (Cond.code yX2_writePayload cX2_writePayload 8 none :: zx_tb) ({ frames := 1, cells := 0, slots := 0, locals := 21 }) (zx_P D a cs [.ref (a 34), .int p0, .ref (a k1)] S) (zx_Qv D a cs S9) 0 0 (zx_A a) := by
  refine zx_met (own := RX2) (by decide) (Nat.le_of_ble_eq_true rfl) rfl ?_
  intro p e s m below meth c ls F hr hW hS hl
  have hl : lv_has ls 8 [(0, .ref (a 34)), (1, .int p0), (2, .ref (a k1))] := hl
  obtain ⟨⟨hx, hb, hml, hown, hts⟩, hlk, hK, hJ, hN⟩ := id F
  unfold f_X2_writePayload at h
  refine lv_iconst (v := 1) hx hb dX2_writePayload_0 (by decide) ?_
  refine lv_iload_n hx hb dX2_writePayload_1 rfl (lv_at hl 1 rfl) ?_
  refine lv_ishl hx hb dX2_writePayload_2 ?_
  refine lv_iconst (v := 1) hx hb dX2_writePayload_3 (by decide) ?_
  refine lv_isub hx hb dX2_writePayload_4 ?_
  obtain ⟨x1, ex1, h⟩ := g_pin h
  refine zx_nm ex1 ?_
  refine lv_istore_n (lv' := [(3, .int x1), (0, .ref (a 34)), (1, .int p0), (2, .ref (a k1))]) hx hb dX2_writePayload_5 rfl hl (by decide) rfl (fun ls hl => ?_)
  refine lv_iconst (v := 0) hx hb dX2_writePayload_6 (by decide) ?_
  refine lv_istore (lv' := [(4, .int (0 : Int32)), (3, .int x1), (0, .ref (a 34)), (1, .int p0), (2, .ref (a k1))]) hx hb dX2_writePayload_7 hl (by decide) rfl (fun ls hl => ?_)
  refine lv_iconst (v := 0) hx hb dX2_writePayload_9 (by decide) ?_
  refine lv_istore (lv' := [(5, .int (0 : Int32)), (4, .int (0 : Int32)), (3, .int x1), (0, .ref (a 34)), (1, .int p0), (2, .ref (a k1))]) hx hb dX2_writePayload_10 hl (by decide) rfl (fun ls hl => ?_)
  refine lv_iconst (v := 0) hx hb dX2_writePayload_12 (by decide) ?_
  refine lv_istore (lv' := [(6, .int (0 : Int32)), (5, .int (0 : Int32)), (4, .int (0 : Int32)), (3, .int x1), (0, .ref (a 34)), (1, .int p0), (2, .ref (a k1))]) hx hb dX2_writePayload_13 hl (by decide) rfl (fun ls hl => ?_)
  exact k_X2_writePayload_L15 hk1 F hr   fu p0 x1 (0 : Int32) (0 : Int32) (0 : Int32) S h _ _ _ hW hS (lv_sub hl [4, 5, 6, 3, 2, 1, 0] rfl)
theorem Y_X4_addNumber : zx_Y yX4_addNumber cX4_addNumber 4 none 2 := ⟨wc_X4_addNumber, wn_X4, by decide, by decide, by decide +kernel⟩
set_option maxHeartbeats 4000000 in
set_option maxRecDepth 100000 in
theorem k_X4_addNumber_L4 {l : Launch} {D : va_G} {a : Nat → Nat} {cs : zx_C} {p : Program} {e : Env} {s : State} {m : MethodId} {below : List Frame} {meth : Method} {c : Code} {fu : Nat} {k : Nat} {p0 : Int32} {p1 : Int32} (hk : zx_row k = true) (F : zx_F D a cs p m c cX4_addNumber 4 s ([.ref (a k), .int p0, .int p1] : List Value).toArray RX4 meth) (hr : meth.sig.returnType = none) {r9 : Int32} {S9 : St}    : ∀ (n : Nat) (v1 : Int32) (v3 : Int32) (S : St), f_X4_addNumber_L4 fu k p0 p1   n v1 v3 S = some (r9, S9) → ∀ (H : Heap) (locs : List Loc) (ls : Array Slot), zx_W D a cs S H → va_S (zx_A a) s.heap H locs → lv_has ls 4 [(0, .ref (a k)), (1, .int v1), (3, .int v3)] → W p l e ({ frames := 1, cells := 0, slots := 0, locals := 21 }) s m ([.ref (a k), .int p0, .int p1] : List Value).toArray below meth c H locs 0 0 (MQ below (zx_Qv D a cs S9) ([.ref (a k), .int p0, .int p1] : List Value).toArray s 0 0 (zx_A a)) (F0 m 4 ls []) := by
  obtain ⟨⟨hx, hb, hml, hown, hts⟩, hlk, hK, hJ, hN⟩ := id F
  intro n
  induction n with
  | zero =>
    intro v1 v3 S h
    exact absurd h (fun q => by cases q)
  | succ n ih =>
    intro v1 v3 S h H locs ls hW hS hl
    rw [f_X4_addNumber_L4_s] at h
    refine lv_iload_n hx hb dX4_addNumber_4 rfl (lv_at hl 2 rfl) ?_
    refine lv_if_lt (tgt := 24) hx hb dX4_addNumber_5 (by decide) (fun c2 => ?_) (fun c2 => ?_)
    · have h := g_t c2 h
      exact zx_rv F hr hW hS h dX4_addNumber_24
    · have h := g_f c2 h
      refine lv_aload_n hx hb dX4_addNumber_8 rfl (lv_at hl 0 rfl) ?_
      refine lv_iload_n hx hb dX4_addNumber_9 rfl (lv_at hl 1 rfl) ?_
      refine lv_bipush (v := 8) hx hb dX4_addNumber_10 (by decide) ?_
      refine lv_iload_n hx hb dX4_addNumber_12 rfl (lv_at hl 2 rfl) ?_
      refine lv_imul hx hb dX4_addNumber_13 ?_
      refine lv_iushr hx hb dX4_addNumber_14 rfl ?_
      obtain ⟨r3, S4, h5, h⟩ := g_bd h
      refine zx_cv (zx_runV (q := (RX4, TX4, 2)) (As := [.int (((v1).toUInt32 >>> ((((8 : Int32) * v3)).toUInt32 &&& Int32.toUInt32 31)).toInt32)]) (rest := []) F hW (c_X4_add l D a cs k (((v1).toUInt32 >>> ((((8 : Int32) * v3)).toUInt32 &&& Int32.toUInt32 31)).toInt32) hk S r3 S4 h5) Y_X4_add wi_X4_add ws_X4_add wm_X4_19 ⟨rfl, rfl, Nat.le_of_ble_eq_true rfl, Nat.le_of_ble_eq_true rfl, Nat.le_of_ble_eq_true rfl, Nat.le_of_ble_eq_true rfl⟩ (zx_row_l hk).1 (zx_row_E hk) rfl rfl hl.1 rfl (Nat.le_of_ble_eq_true rfl) dX4_addNumber_15) hS (fun H locs hW hS => ?_)
      obtain ⟨x6, ex6, h⟩ := g_pin h
      refine lv_iinc (v := x6) (lv' := [(3, .int x6), (0, .ref (a k)), (1, .int v1)]) hx hb dX4_addNumber_18 hl (k := 2) rfl (by rw [ex6]; rfl) (by decide) rfl (fun ls hl => ?_)
      refine lv_goto (tgt := 4) hx hb dX4_addNumber_21 (by decide) ?_
      exact ih v1 x6 S4 h _ _ _ hW hS (lv_sub hl [1, 2, 0] rfl)
set_option maxHeartbeats 4000000 in
set_option maxRecDepth 100000 in
theorem c_X4_addNumber (l : Launch) (D : va_G) (a : Nat → Nat) (cs : zx_C) (fu : Nat) (k : Nat) (p0 : Int32) (p1 : Int32) (hk : zx_row k = true) (S : St) (r9 : Int32) (S9 : St) (h : f_X4_addNumber fu k p0 p1 S = some (r9, S9)) : Met l yX4_addNumber (Cond.code yX4_addNumber cX4_addNumber 4 none :: zx_tb) ({ frames := 1, cells := 0, slots := 0, locals := 21 }) (zx_P D a cs [.ref (a k), .int p0, .int p1] S) (zx_Qv D a cs S9) 0 0 (zx_A a) := by
  refine zx_met (own := RX4) (by decide) (Nat.le_of_ble_eq_true rfl) rfl ?_
  intro p e s m below meth c ls F hr hW hS hl
  have hl : lv_has ls 4 [(0, .ref (a k)), (1, .int p0), (2, .int p1)] := hl
  obtain ⟨⟨hx, hb, hml, hown, hts⟩, hlk, hK, hJ, hN⟩ := id F
  unfold f_X4_addNumber at h
  refine lv_iload_n hx hb dX4_addNumber_0 rfl (lv_at hl 2 rfl) ?_
  refine lv_iconst (v := 1) hx hb dX4_addNumber_1 (by decide) ?_
  refine lv_isub hx hb dX4_addNumber_2 ?_
  obtain ⟨x1, ex1, h⟩ := g_pin h
  refine zx_nm ex1 ?_
  refine lv_istore_n (lv' := [(3, .int x1), (0, .ref (a k)), (1, .int p0), (2, .int p1)]) hx hb dX4_addNumber_3 rfl hl (by decide) rfl (fun ls hl => ?_)
  exact k_X4_addNumber_L4 hk F hr   fu p0 x1 S h _ _ _ hW hS (lv_sub hl [1, 2, 0] rfl)
theorem Y_X6_different : zx_Y yX6_different cX6_different 3 (some (.int)) 0 := ⟨wc_X6_different, wn_X6, by decide, by decide, by decide +kernel⟩
set_option maxHeartbeats 4000000 in
set_option maxRecDepth 100000 in
theorem k_X6_different_L23 {l : Launch} {D : va_G} {a : Nat → Nat} {cs : zx_C} {p : Program} {e : Env} {s : State} {m : MethodId} {below : List Frame} {meth : Method} {c : Code} {fu : Nat} {k : Nat} (hk : zx_tab k = true) (F : zx_F D a cs p m c cX6_different 3 s ([.ref (a k)] : List Value).toArray RX6 meth) (hr : meth.sig.returnType = (some (.int))) {r9 : Int32} {S9 : St} {K4 : Int32 → Int32 → St → Option (Int32 × St)} (hK4 : ∀ (v1 : Int32) (v2 : Int32) (S : St), K4 v1 v2 S = some (r9, S9) → ∀ (H : Heap) (locs : List Loc) (ls : Array Slot), zx_W D a cs S H → va_S (zx_A a) s.heap H locs → lv_has ls 3 [(0, .ref (a k)), (1, .int v1), (2, .int v2)] → W p l e ({ frames := 0, cells := 0, slots := 0, locals := 0 }) s m ([.ref (a k)] : List Value).toArray below meth c H locs 0 0 (MQ below (zx_Qi D a cs r9 S9) ([.ref (a k)] : List Value).toArray s 0 0 (zx_A a)) (F0 m 4 ls []))  (v1 : Int32) (v2 : Int32) (S : St) (h : f_X6_different_L23 fu k K4  v1 v2 S = some (r9, S9)) (H : Heap) (locs : List Loc) (ls : Array Slot) (hW : zx_W D a cs S H) (hS : va_S (zx_A a) s.heap H locs) (hl : lv_has ls 3 [(0, .ref (a k)), (1, .int v1), (2, .int v2)]) : W p l e ({ frames := 0, cells := 0, slots := 0, locals := 0 }) s m ([.ref (a k)] : List Value).toArray below meth c H locs 0 0 (MQ below (zx_Qi D a cs r9 S9) ([.ref (a k)] : List Value).toArray s 0 0 (zx_A a)) (F0 m 23 ls []) := by
  obtain ⟨⟨hx, hb, hml, hown, hts⟩, hlk, hK, hJ, hN⟩ := id F
  unfold f_X6_different_L23 at h
  obtain ⟨x4, ex4, h⟩ := g_pin h
  refine lv_iinc (v := x4) (lv' := [(2, .int x4), (0, .ref (a k)), (1, .int v1)]) hx hb dX6_different_23 hl (k := 2) rfl (by rw [ex4]; rfl) (by decide) rfl (fun ls hl => ?_)
  refine lv_goto (tgt := 4) hx hb dX6_different_26 (by decide) ?_
  exact hK4 v1 x4 S h _ _ _ hW hS (lv_sub hl [1, 2, 0] rfl)
set_option maxHeartbeats 4000000 in
set_option maxRecDepth 100000 in
theorem k_X6_different_L4 {l : Launch} {D : va_G} {a : Nat → Nat} {cs : zx_C} {p : Program} {e : Env} {s : State} {m : MethodId} {below : List Frame} {meth : Method} {c : Code} {fu : Nat} {k : Nat} (hk : zx_tab k = true) (F : zx_F D a cs p m c cX6_different 3 s ([.ref (a k)] : List Value).toArray RX6 meth) (hr : meth.sig.returnType = (some (.int))) {r9 : Int32} {S9 : St}    : ∀ (n : Nat) (v1 : Int32) (v2 : Int32) (S : St), f_X6_different_L4 fu k   n v1 v2 S = some (r9, S9) → ∀ (H : Heap) (locs : List Loc) (ls : Array Slot), zx_W D a cs S H → va_S (zx_A a) s.heap H locs → lv_has ls 3 [(0, .ref (a k)), (1, .int v1), (2, .int v2)] → W p l e ({ frames := 0, cells := 0, slots := 0, locals := 0 }) s m ([.ref (a k)] : List Value).toArray below meth c H locs 0 0 (MQ below (zx_Qi D a cs r9 S9) ([.ref (a k)] : List Value).toArray s 0 0 (zx_A a)) (F0 m 4 ls []) := by
  obtain ⟨⟨hx, hb, hml, hown, hts⟩, hlk, hK, hJ, hN⟩ := id F
  intro n
  induction n with
  | zero =>
    intro v1 v2 S h
    exact absurd h (fun q => by cases q)
  | succ n ih =>
    intro v1 v2 S h H locs ls hW hS hl
    rw [f_X6_different_L4_s] at h
    refine lv_iload_n hx hb dX6_different_4 rfl (lv_at hl 2 rfl) ?_
    refine lv_sipush (v := 256) hx hb dX6_different_5 (by decide) ?_
    refine lv_icmp_ge (tgt := 29) hx hb dX6_different_8 (by decide) (fun c1 => ?_) (fun c1 => ?_)
    · have h := g_t c1 h
      refine lv_iload_n hx hb dX6_different_29 rfl (lv_at hl 1 rfl) ?_
      exact zx_ri F hr hW hS h dX6_different_30
    · have h := g_f c1 h
      refine lv_aload_n hx hb dX6_different_11 rfl (lv_at hl 0 rfl) ?_
      refine zx_get (C := RX6) (T := TX6) (N := 2) F hW wu_X6 (zx_tab_l hk).1 (zx_tab_E hk) rfl 0 (by decide) wf_X6_9 rfl dX6_different_12 ?_
      refine lv_iload_n hx hb dX6_different_15 rfl (lv_at hl 2 rfl) ?_
      obtain ⟨c2, h⟩ := g_no h
      refine zx_iald (n := 256) F hW (zx_tab_l hk).2 (zx_tab_A hk) c2 dX6_different_16 ?_
      refine lv_if_le (tgt := 23) hx hb dX6_different_17 (by decide) (fun c3 => ?_) (fun c3 => ?_)
      · have h := g_t c3 h
        exact k_X6_different_L23 hk F hr ih  v1 v2 S h _ _ _ hW hS (lv_sub hl [0, 1, 2] rfl)
      · have h := g_f c3 h
        obtain ⟨x5, ex5, h⟩ := g_pin h
        refine lv_iinc (v := x5) (lv' := [(1, .int x5), (0, .ref (a k)), (2, .int v2)]) hx hb dX6_different_20 hl (k := 1) rfl (by rw [ex5]; rfl) (by decide) rfl (fun ls hl => ?_)
        exact k_X6_different_L23 hk F hr ih  x5 v2 S h _ _ _ hW hS (lv_sub hl [1, 0, 2] rfl)
set_option maxHeartbeats 4000000 in
set_option maxRecDepth 100000 in
theorem c_X6_different (l : Launch) (D : va_G) (a : Nat → Nat) (cs : zx_C) (fu : Nat) (k : Nat) (hk : zx_tab k = true) (S : St) (r9 : Int32) (S9 : St) (h : f_X6_different fu k S = some (r9, S9)) : Met l yX6_different (Cond.code yX6_different cX6_different 3 (some (.int)) :: zx_tb) ({ frames := 0, cells := 0, slots := 0, locals := 0 }) (zx_P D a cs [.ref (a k)] S) (zx_Qi D a cs r9 S9) 0 0 (zx_A a) := by
  refine zx_met (own := RX6) (by decide) (Nat.le_of_ble_eq_true rfl) rfl ?_
  intro p e s m below meth c ls F hr hW hS hl
  have hl : lv_has ls 3 [(0, .ref (a k))] := hl
  obtain ⟨⟨hx, hb, hml, hown, hts⟩, hlk, hK, hJ, hN⟩ := id F
  unfold f_X6_different at h
  refine lv_iconst (v := 0) hx hb dX6_different_0 (by decide) ?_
  refine lv_istore_n (lv' := [(1, .int (0 : Int32)), (0, .ref (a k))]) hx hb dX6_different_1 rfl hl (by decide) rfl (fun ls hl => ?_)
  refine lv_iconst (v := 0) hx hb dX6_different_2 (by decide) ?_
  refine lv_istore_n (lv' := [(2, .int (0 : Int32)), (1, .int (0 : Int32)), (0, .ref (a k))]) hx hb dX6_different_3 rfl hl (by decide) rfl (fun ls hl => ?_)
  exact k_X6_different_L4 hk F hr   fu (0 : Int32) (0 : Int32) S h _ _ _ hW hS (lv_sub hl [2, 1, 0] rfl)
theorem Y_X2_writePacket : zx_Y yX2_writePacket cX2_writePacket 5 none 3 := ⟨wc_X2_writePacket, wn_X2, by decide, by decide, by decide +kernel⟩
set_option maxHeartbeats 4000000 in
set_option maxRecDepth 100000 in
theorem k_X2_writePacket_L121 {l : Launch} {D : va_G} {a : Nat → Nat} {cs : zx_C} {p : Program} {e : Env} {s : State} {m : MethodId} {below : List Frame} {meth : Method} {c : Code} {fu : Nat} {k1 : Nat} {k2 : Nat} (hk1 : zx_tab k1 = true) (hk2 : zx_row k2 = true) (F : zx_F D a cs p m c cX2_writePacket 5 s ([.ref (a 34), .ref (a 8), .ref (a k1), .ref (a k2)] : List Value).toArray RX2 meth) (hr : meth.sig.returnType = none) {r9 : Int32} {S9 : St}    : ∀ (n : Nat) (v4 : Int32) (S : St), f_X2_writePacket_L121 fu k1 k2   n v4 S = some (r9, S9) → ∀ (H : Heap) (locs : List Loc) (ls : Array Slot), zx_W D a cs S H → va_S (zx_A a) s.heap H locs → lv_has ls 5 [(0, .ref (a 34)), (1, .ref (a 8)), (3, .ref (a k2)), (4, .int v4)] → W p l e ({ frames := 2, cells := 0, slots := 0, locals := 48 }) s m ([.ref (a 34), .ref (a 8), .ref (a k1), .ref (a k2)] : List Value).toArray below meth c H locs 0 0 (MQ below (zx_Qv D a cs S9) ([.ref (a 34), .ref (a 8), .ref (a k1), .ref (a k2)] : List Value).toArray s 0 0 (zx_A a)) (F0 m 121 ls []) := by
  obtain ⟨⟨hx, hb, hml, hown, hts⟩, hlk, hK, hJ, hN⟩ := id F
  intro n
  induction n with
  | zero =>
    intro v4 S h
    exact absurd h (fun q => by cases q)
  | succ n ih =>
    intro v4 S h H locs ls hW hS hl
    rw [f_X2_writePacket_L121_s] at h
    refine lv_iload hx hb dX2_writePacket_121 (lv_at hl 3 rfl) ?_
    refine lv_aload_n hx hb dX2_writePacket_123 rfl (lv_at hl 1 rfl) ?_
    obtain ⟨r24, S25, h26, h⟩ := g_bd h
    refine zx_ci (zx_runV (q := (RX0, TX0, 8)) (As := []) (rest := [.int v4]) F hW (c_X0_stateCount l D a cs   S r24 S25 h26) Y_X0_stateCount wi_X0_stateCount ws_X0_stateCount wm_X2_114 ⟨rfl, rfl, Nat.le_of_ble_eq_true rfl, Nat.le_of_ble_eq_true rfl, Nat.le_of_ble_eq_true rfl, Nat.le_of_ble_eq_true rfl⟩ (by decide) zx_E8 rfl rfl hl.1 rfl (Nat.le_of_ble_eq_true rfl) dX2_writePacket_124) hS (fun H locs hW hS => ?_)
    refine lv_icmp_ge (tgt := 156) hx hb dX2_writePacket_127 (by decide) (fun c27 => ?_) (fun c27 => ?_)
    · have h := g_t c27 h
      refine lv_aload_n hx hb dX2_writePacket_156 rfl (lv_at hl 0 rfl) ?_
      refine lv_aload_n hx hb dX2_writePacket_157 rfl (lv_at hl 1 rfl) ?_
      refine zx_get (C := RX0) (T := TX0) (N := 8) F hW wu_X0 (by decide) zx_E8 rfl 4 (by decide) wf_X2_75 rfl dX2_writePacket_158 ?_
      refine lv_aload_n hx hb dX2_writePacket_161 rfl (lv_at hl 2 rfl) ?_
      obtain ⟨r28, S29, h30, h⟩ := g_bd h
      refine zx_cv (zx_runV (q := (RX2, TX2, 3)) (As := [.int (S25 8 4), .ref (a k2)]) (rest := []) F hW (c_X2_writePayload l D a cs fu (S25 8 4) k2 hk2 S25 r28 S29 h30) Y_X2_writePayload wi_X2_writePayload ws_X2_writePayload wm_X2_123 ⟨rfl, rfl, Nat.le_of_ble_eq_true rfl, Nat.le_of_ble_eq_true rfl, Nat.le_of_ble_eq_true rfl, Nat.le_of_ble_eq_true rfl⟩ (by decide) zx_E34 rfl rfl hl.1 rfl (Nat.le_of_ble_eq_true rfl) dX2_writePacket_162) hS (fun H locs hW hS => ?_)
      exact zx_rv F hr hW hS h dX2_writePacket_165
    · have h := g_f c27 h
      refine lv_aload_n hx hb dX2_writePacket_130 rfl (lv_at hl 2 rfl) ?_
      refine lv_aload_n hx hb dX2_writePacket_131 rfl (lv_at hl 0 rfl) ?_
      refine zx_get (C := RX2) (T := TX2) (N := 3) F hW wu_X2 (by decide) zx_E34 rfl 1 (by decide) wf_X2_18 rfl dX2_writePacket_132 ?_
      refine lv_iload hx hb dX2_writePacket_135 (lv_at hl 3 rfl) ?_
      obtain ⟨c31, h⟩ := g_no h
      refine zx_iald (n := 2) F hW (by decide) zx_E37 c31 dX2_writePacket_137 ?_
      refine lv_aload_n hx hb dX2_writePacket_138 rfl (lv_at hl 1 rfl) ?_
      obtain ⟨r32, S33, h34, h⟩ := g_bd h
      refine zx_ci (zx_runV (q := (RX0, TX0, 8)) (As := []) (rest := [.int (S25 37 v4.toNatClampNeg), .ref (a k2)]) F hW (c_X0_stateBase l D a cs   S25 r32 S33 h34) Y_X0_stateBase wi_X0_stateBase ws_X0_stateBase wm_X2_117 ⟨rfl, rfl, Nat.le_of_ble_eq_true rfl, Nat.le_of_ble_eq_true rfl, Nat.le_of_ble_eq_true rfl, Nat.le_of_ble_eq_true rfl⟩ (by decide) zx_E8 rfl rfl hl.1 rfl (Nat.le_of_ble_eq_true rfl) dX2_writePacket_139) hS (fun H locs hW hS => ?_)
      refine lv_isub hx hb dX2_writePacket_142 ?_
      refine lv_aload_n hx hb dX2_writePacket_143 rfl (lv_at hl 1 rfl) ?_
      obtain ⟨r35, S36, h37, h⟩ := g_bd h
      refine zx_ci (zx_runV (q := (RX0, TX0, 8)) (As := []) (rest := [.int ((S25 37 v4.toNatClampNeg) - r32), .ref (a k2)]) F hW (c_X0_stateBytes l D a cs   S33 r35 S36 h37) Y_X0_stateBytes wi_X0_stateBytes ws_X0_stateBytes wm_X2_120 ⟨rfl, rfl, Nat.le_of_ble_eq_true rfl, Nat.le_of_ble_eq_true rfl, Nat.le_of_ble_eq_true rfl, Nat.le_of_ble_eq_true rfl⟩ (by decide) zx_E8 rfl rfl hl.1 rfl (Nat.le_of_ble_eq_true rfl) dX2_writePacket_144) hS (fun H locs hW hS => ?_)
      obtain ⟨r38, S39, h40, h⟩ := g_bd h
      refine zx_cv (zx_runV (q := (RX4, TX4, 2)) (As := [.int ((S25 37 v4.toNatClampNeg) - r32), .int r35]) (rest := []) F hW (c_X4_addNumber l D a cs fu k2 ((S25 37 v4.toNatClampNeg) - r32) r35 hk2 S36 r38 S39 h40) Y_X4_addNumber wi_X4_addNumber ws_X4_addNumber wm_X2_108 ⟨rfl, rfl, Nat.le_of_ble_eq_true rfl, Nat.le_of_ble_eq_true rfl, Nat.le_of_ble_eq_true rfl, Nat.le_of_ble_eq_true rfl⟩ (zx_row_l hk2).1 (zx_row_E hk2) rfl rfl hl.1 rfl (Nat.le_of_ble_eq_true rfl) dX2_writePacket_147) hS (fun H locs hW hS => ?_)
      obtain ⟨x41, ex41, h⟩ := g_pin h
      refine lv_iinc (v := x41) (lv' := [(4, .int x41), (0, .ref (a 34)), (1, .ref (a 8)), (3, .ref (a k2))]) hx hb dX2_writePacket_150 hl (k := 3) rfl (by rw [ex41]; rfl) (by decide) rfl (fun ls hl => ?_)
      refine lv_goto (tgt := 121) hx hb dX2_writePacket_153 (by decide) ?_
      exact ih x41 S39 h _ _ _ hW hS (lv_sub hl [1, 2, 3, 0] rfl)
set_option maxHeartbeats 4000000 in
set_option maxRecDepth 100000 in
theorem k_X2_writePacket_L84 {l : Launch} {D : va_G} {a : Nat → Nat} {cs : zx_C} {p : Program} {e : Env} {s : State} {m : MethodId} {below : List Frame} {meth : Method} {c : Code} {fu : Nat} {k1 : Nat} {k2 : Nat} (hk1 : zx_tab k1 = true) (hk2 : zx_row k2 = true) (F : zx_F D a cs p m c cX2_writePacket 5 s ([.ref (a 34), .ref (a 8), .ref (a k1), .ref (a k2)] : List Value).toArray RX2 meth) (hr : meth.sig.returnType = none) {r9 : Int32} {S9 : St} {K50 : Int32 → St → Option (Int32 × St)} (hK50 : ∀ (v4 : Int32) (S : St), K50 v4 S = some (r9, S9) → ∀ (H : Heap) (locs : List Loc) (ls : Array Slot), zx_W D a cs S H → va_S (zx_A a) s.heap H locs → lv_has ls 5 [(0, .ref (a 34)), (1, .ref (a 8)), (2, .ref (a k1)), (3, .ref (a k2)), (4, .int v4)] → W p l e ({ frames := 2, cells := 0, slots := 0, locals := 48 }) s m ([.ref (a 34), .ref (a 8), .ref (a k1), .ref (a k2)] : List Value).toArray below meth c H locs 0 0 (MQ below (zx_Qv D a cs S9) ([.ref (a 34), .ref (a 8), .ref (a k1), .ref (a k2)] : List Value).toArray s 0 0 (zx_A a)) (F0 m 50 ls []))  (v4 : Int32) (S : St) (h : f_X2_writePacket_L84 fu k1 k2 K50  v4 S = some (r9, S9)) (H : Heap) (locs : List Loc) (ls : Array Slot) (hW : zx_W D a cs S H) (hS : va_S (zx_A a) s.heap H locs) (hl : lv_has ls 5 [(0, .ref (a 34)), (1, .ref (a 8)), (2, .ref (a k1)), (3, .ref (a k2)), (4, .int v4)]) : W p l e ({ frames := 2, cells := 0, slots := 0, locals := 48 }) s m ([.ref (a 34), .ref (a 8), .ref (a k1), .ref (a k2)] : List Value).toArray below meth c H locs 0 0 (MQ below (zx_Qv D a cs S9) ([.ref (a 34), .ref (a 8), .ref (a k1), .ref (a k2)] : List Value).toArray s 0 0 (zx_A a)) (F0 m 84 ls []) := by
  obtain ⟨⟨hx, hb, hml, hown, hts⟩, hlk, hK, hJ, hN⟩ := id F
  unfold f_X2_writePacket_L84 at h
  obtain ⟨x46, ex46, h⟩ := g_pin h
  refine lv_iinc (v := x46) (lv' := [(4, .int x46), (0, .ref (a 34)), (1, .ref (a 8)), (2, .ref (a k1)), (3, .ref (a k2))]) hx hb dX2_writePacket_84 hl (k := 4) rfl (by rw [ex46]; rfl) (by decide) rfl (fun ls hl => ?_)
  refine lv_goto (tgt := 50) hx hb dX2_writePacket_87 (by decide) ?_
  exact hK50 x46 S h _ _ _ hW hS (lv_sub hl [1, 2, 3, 4, 0] rfl)
set_option maxHeartbeats 4000000 in
set_option maxRecDepth 100000 in
theorem k_X2_writePacket_L50 {l : Launch} {D : va_G} {a : Nat → Nat} {cs : zx_C} {p : Program} {e : Env} {s : State} {m : MethodId} {below : List Frame} {meth : Method} {c : Code} {fu : Nat} {k1 : Nat} {k2 : Nat} (hk1 : zx_tab k1 = true) (hk2 : zx_row k2 = true) (F : zx_F D a cs p m c cX2_writePacket 5 s ([.ref (a 34), .ref (a 8), .ref (a k1), .ref (a k2)] : List Value).toArray RX2 meth) (hr : meth.sig.returnType = none) {r9 : Int32} {S9 : St}    : ∀ (n : Nat) (v4 : Int32) (S : St), f_X2_writePacket_L50 fu k1 k2   n v4 S = some (r9, S9) → ∀ (H : Heap) (locs : List Loc) (ls : Array Slot), zx_W D a cs S H → va_S (zx_A a) s.heap H locs → lv_has ls 5 [(0, .ref (a 34)), (1, .ref (a 8)), (2, .ref (a k1)), (3, .ref (a k2)), (4, .int v4)] → W p l e ({ frames := 2, cells := 0, slots := 0, locals := 48 }) s m ([.ref (a 34), .ref (a 8), .ref (a k1), .ref (a k2)] : List Value).toArray below meth c H locs 0 0 (MQ below (zx_Qv D a cs S9) ([.ref (a 34), .ref (a 8), .ref (a k1), .ref (a k2)] : List Value).toArray s 0 0 (zx_A a)) (F0 m 50 ls []) := by
  obtain ⟨⟨hx, hb, hml, hown, hts⟩, hlk, hK, hJ, hN⟩ := id F
  intro n
  induction n with
  | zero =>
    intro v4 S h
    exact absurd h (fun q => by cases q)
  | succ n ih =>
    intro v4 S h H locs ls hW hS hl
    rw [f_X2_writePacket_L50_s] at h
    refine lv_iload hx hb dX2_writePacket_50 (lv_at hl 4 rfl) ?_
    refine lv_sipush (v := 256) hx hb dX2_writePacket_52 (by decide) ?_
    refine lv_icmp_ge (tgt := 90) hx hb dX2_writePacket_55 (by decide) (fun c17 => ?_) (fun c17 => ?_)
    · have h := g_t c17 h
      refine lv_aload_n hx hb dX2_writePacket_90 rfl (lv_at hl 3 rfl) ?_
      refine lv_aload_n hx hb dX2_writePacket_91 rfl (lv_at hl 0 rfl) ?_
      refine zx_get (C := RX2) (T := TX2) (N := 3) F hW wu_X2 (by decide) zx_E34 rfl 0 (by decide) wf_X2_12 rfl dX2_writePacket_92 ?_
      refine zx_get (C := RX7) (T := TX7) (N := 1) F hW wu_X7 (by decide) zx_E35 rfl 0 (by decide) wf_X2_111 rfl dX2_writePacket_95 ?_
      refine lv_iconst (v := 2) hx hb dX2_writePacket_98 (by decide) ?_
      refine zx_iald (n := 6) F hW (by decide) zx_E36 (by unfold vp_in; decide) dX2_writePacket_99 ?_
      refine zx_nm (z := (S 36 2)) rfl ?_
      refine lv_iconst (v := 2) hx hb dX2_writePacket_100 (by decide) ?_
      obtain ⟨r18, S19, h20, h⟩ := g_bd h
      refine zx_cv (zx_runV (q := (RX4, TX4, 2)) (As := [.int (S 36 2), .int (2 : Int32)]) (rest := []) F hW (c_X4_addNumber l D a cs fu k2 (S 36 2) (2 : Int32) hk2 S r18 S19 h20) Y_X4_addNumber wi_X4_addNumber ws_X4_addNumber wm_X2_108 ⟨rfl, rfl, Nat.le_of_ble_eq_true rfl, Nat.le_of_ble_eq_true rfl, Nat.le_of_ble_eq_true rfl, Nat.le_of_ble_eq_true rfl⟩ (zx_row_l hk2).1 (zx_row_E hk2) rfl rfl hl.1 rfl (Nat.le_of_ble_eq_true rfl) dX2_writePacket_101) hS (fun H locs hW hS => ?_)
      refine lv_aload_n hx hb dX2_writePacket_104 rfl (lv_at hl 3 rfl) ?_
      refine lv_aload_n hx hb dX2_writePacket_105 rfl (lv_at hl 0 rfl) ?_
      refine zx_get (C := RX2) (T := TX2) (N := 3) F hW wu_X2 (by decide) zx_E34 rfl 0 (by decide) wf_X2_12 rfl dX2_writePacket_106 ?_
      refine zx_get (C := RX7) (T := TX7) (N := 1) F hW wu_X7 (by decide) zx_E35 rfl 0 (by decide) wf_X2_111 rfl dX2_writePacket_109 ?_
      refine lv_iconst (v := 4) hx hb dX2_writePacket_112 (by decide) ?_
      refine zx_iald (n := 6) F hW (by decide) zx_E36 (by unfold vp_in; decide) dX2_writePacket_113 ?_
      refine zx_nm (z := (S19 36 4)) rfl ?_
      refine lv_iconst (v := 2) hx hb dX2_writePacket_114 (by decide) ?_
      obtain ⟨r21, S22, h23, h⟩ := g_bd h
      refine zx_cv (zx_runV (q := (RX4, TX4, 2)) (As := [.int (S19 36 4), .int (2 : Int32)]) (rest := []) F hW (c_X4_addNumber l D a cs fu k2 (S19 36 4) (2 : Int32) hk2 S19 r21 S22 h23) Y_X4_addNumber wi_X4_addNumber ws_X4_addNumber wm_X2_108 ⟨rfl, rfl, Nat.le_of_ble_eq_true rfl, Nat.le_of_ble_eq_true rfl, Nat.le_of_ble_eq_true rfl, Nat.le_of_ble_eq_true rfl⟩ (zx_row_l hk2).1 (zx_row_E hk2) rfl rfl hl.1 rfl (Nat.le_of_ble_eq_true rfl) dX2_writePacket_115) hS (fun H locs hW hS => ?_)
      refine lv_iconst (v := 0) hx hb dX2_writePacket_118 (by decide) ?_
      refine lv_istore (lv' := [(4, .int (0 : Int32)), (0, .ref (a 34)), (1, .ref (a 8)), (2, .ref (a k1)), (3, .ref (a k2))]) hx hb dX2_writePacket_119 hl (by decide) rfl (fun ls hl => ?_)
      exact k_X2_writePacket_L121 hk1 hk2 F hr   fu (0 : Int32) S22 h _ _ _ hW hS (lv_sub hl [1, 2, 4, 0] rfl)
    · have h := g_f c17 h
      refine lv_aload_n hx hb dX2_writePacket_58 rfl (lv_at hl 2 rfl) ?_
      refine lv_iload hx hb dX2_writePacket_59 (lv_at hl 4 rfl) ?_
      obtain ⟨r42, S43, h44, h⟩ := g_bd h
      refine zx_ci (zx_runV (q := (RX6, TX6, 2)) (As := [.int v4]) (rest := []) F hW (c_X6_shareOf l D a cs k1 v4 hk1 S r42 S43 h44) Y_X6_shareOf wi_X6_shareOf ws_X6_shareOf wm_X2_105 ⟨rfl, rfl, Nat.le_of_ble_eq_true rfl, Nat.le_of_ble_eq_true rfl, Nat.le_of_ble_eq_true rfl, Nat.le_of_ble_eq_true rfl⟩ (zx_tab_l hk1).1 (zx_tab_E hk1) rfl rfl hl.1 rfl (Nat.le_of_ble_eq_true rfl) dX2_writePacket_61) hS (fun H locs hW hS => ?_)
      refine lv_if_le (tgt := 84) hx hb dX2_writePacket_64 (by decide) (fun c45 => ?_) (fun c45 => ?_)
      · have h := g_t c45 h
        exact k_X2_writePacket_L84 hk1 hk2 F hr ih  v4 S43 h _ _ _ hW hS (lv_sub hl [0, 1, 2, 3, 4] rfl)
      · have h := g_f c45 h
        refine lv_aload_n hx hb dX2_writePacket_67 rfl (lv_at hl 3 rfl) ?_
        refine lv_iload hx hb dX2_writePacket_68 (lv_at hl 4 rfl) ?_
        obtain ⟨r47, S48, h49, h⟩ := g_bd h
        refine zx_cv (zx_runV (q := (RX4, TX4, 2)) (As := [.int v4]) (rest := []) F hW (c_X4_add l D a cs k2 v4 hk2 S43 r47 S48 h49) Y_X4_add wi_X4_add ws_X4_add wm_X2_81 ⟨rfl, rfl, Nat.le_of_ble_eq_true rfl, Nat.le_of_ble_eq_true rfl, Nat.le_of_ble_eq_true rfl, Nat.le_of_ble_eq_true rfl⟩ (zx_row_l hk2).1 (zx_row_E hk2) rfl rfl hl.1 rfl (Nat.le_of_ble_eq_true rfl) dX2_writePacket_70) hS (fun H locs hW hS => ?_)
        refine lv_aload_n hx hb dX2_writePacket_73 rfl (lv_at hl 3 rfl) ?_
        refine lv_aload_n hx hb dX2_writePacket_74 rfl (lv_at hl 2 rfl) ?_
        refine lv_iload hx hb dX2_writePacket_75 (lv_at hl 4 rfl) ?_
        obtain ⟨r50, S51, h52, h⟩ := g_bd h
        refine zx_ci (zx_runV (q := (RX6, TX6, 2)) (As := [.int v4]) (rest := [.ref (a k2)]) F hW (c_X6_shareOf l D a cs k1 v4 hk1 S48 r50 S51 h52) Y_X6_shareOf wi_X6_shareOf ws_X6_shareOf wm_X2_105 ⟨rfl, rfl, Nat.le_of_ble_eq_true rfl, Nat.le_of_ble_eq_true rfl, Nat.le_of_ble_eq_true rfl, Nat.le_of_ble_eq_true rfl⟩ (zx_tab_l hk1).1 (zx_tab_E hk1) rfl rfl hl.1 rfl (Nat.le_of_ble_eq_true rfl) dX2_writePacket_77) hS (fun H locs hW hS => ?_)
        refine lv_iconst (v := 2) hx hb dX2_writePacket_80 (by decide) ?_
        obtain ⟨r53, S54, h55, h⟩ := g_bd h
        refine zx_cv (zx_runV (q := (RX4, TX4, 2)) (As := [.int r50, .int (2 : Int32)]) (rest := []) F hW (c_X4_addNumber l D a cs fu k2 r50 (2 : Int32) hk2 S51 r53 S54 h55) Y_X4_addNumber wi_X4_addNumber ws_X4_addNumber wm_X2_108 ⟨rfl, rfl, Nat.le_of_ble_eq_true rfl, Nat.le_of_ble_eq_true rfl, Nat.le_of_ble_eq_true rfl, Nat.le_of_ble_eq_true rfl⟩ (zx_row_l hk2).1 (zx_row_E hk2) rfl rfl hl.1 rfl (Nat.le_of_ble_eq_true rfl) dX2_writePacket_81) hS (fun H locs hW hS => ?_)
        exact k_X2_writePacket_L84 hk1 hk2 F hr ih  v4 S54 h _ _ _ hW hS (lv_sub hl [0, 1, 2, 3, 4] rfl)
set_option maxHeartbeats 4000000 in
set_option maxRecDepth 100000 in
theorem c_X2_writePacket (l : Launch) (D : va_G) (a : Nat → Nat) (cs : zx_C) (fu : Nat) (k1 : Nat) (k2 : Nat) (hk1 : zx_tab k1 = true) (hk2 : zx_row k2 = true) (S : St) (r9 : Int32) (S9 : St) (h : f_X2_writePacket fu k1 k2 S = some (r9, S9)) : Met l yX2_writePacket (Cond.code yX2_writePacket cX2_writePacket 5 none :: zx_tb) ({ frames := 2, cells := 0, slots := 0, locals := 48 }) (zx_P D a cs [.ref (a 34), .ref (a 8), .ref (a k1), .ref (a k2)] S) (zx_Qv D a cs S9) 0 0 (zx_A a) := by
  refine zx_met (own := RX2) (by decide) (Nat.le_of_ble_eq_true rfl) rfl ?_
  intro p e s m below meth c ls F hr hW hS hl
  have hl : lv_has ls 5 [(0, .ref (a 34)), (1, .ref (a 8)), (2, .ref (a k1)), (3, .ref (a k2))] := hl
  obtain ⟨⟨hx, hb, hml, hown, hts⟩, hlk, hK, hJ, hN⟩ := id F
  unfold f_X2_writePacket at h
  refine lv_aload_n hx hb dX2_writePacket_0 rfl (lv_at hl 3 rfl) ?_
  refine lv_iconst (v := 0) hx hb dX2_writePacket_1 (by decide) ?_
  obtain ⟨S1, eS1, h⟩ := g_pin h
  refine zx_putv (C := RX4) (T := TX4) (N := 2) F hW hS wu_X4 tyX4_ok nmX4 (zx_row_l hk2).1 (zx_row_E hk2) rfl 1 (by decide) wf_X2_41 rfl (0 : Int32) rfl rfl (Nat.le_of_ble_eq_true rfl) (by rw [(zx_row_E hk2)]; rfl) dX2_writePacket_2 (fun H locs hW hS => ?_)
  have hW : zx_W D a cs S1 H := by rw [eS1]; exact hW
  refine lv_aload_n hx hb dX2_writePacket_5 rfl (lv_at hl 3 rfl) ?_
  refine lv_bipush (v := 83) hx hb dX2_writePacket_6 (by decide) ?_
  obtain ⟨r2, S3, h4, h⟩ := g_bd h
  refine zx_cv (zx_runV (q := (RX4, TX4, 2)) (As := [.int (83 : Int32)]) (rest := []) F hW (c_X4_add l D a cs k2 (83 : Int32) hk2 S1 r2 S3 h4) Y_X4_add wi_X4_add ws_X4_add wm_X2_81 ⟨rfl, rfl, Nat.le_of_ble_eq_true rfl, Nat.le_of_ble_eq_true rfl, Nat.le_of_ble_eq_true rfl, Nat.le_of_ble_eq_true rfl⟩ (zx_row_l hk2).1 (zx_row_E hk2) rfl rfl hl.1 rfl (Nat.le_of_ble_eq_true rfl) dX2_writePacket_8) hS (fun H locs hW hS => ?_)
  refine lv_aload_n hx hb dX2_writePacket_11 rfl (lv_at hl 3 rfl) ?_
  refine lv_iconst (v := 4) hx hb dX2_writePacket_12 (by decide) ?_
  refine lv_aload_n hx hb dX2_writePacket_13 rfl (lv_at hl 1 rfl) ?_
  refine zx_get (C := RX0) (T := TX0) (N := 8) F hW wu_X0 (by decide) zx_E8 rfl 1 (by decide) wf_X2_84 rfl dX2_writePacket_14 ?_
  refine lv_imul hx hb dX2_writePacket_17 ?_
  refine lv_aload_n hx hb dX2_writePacket_18 rfl (lv_at hl 1 rfl) ?_
  refine zx_get (C := RX0) (T := TX0) (N := 8) F hW wu_X0 (by decide) zx_E8 rfl 0 (by decide) wf_X2_87 rfl dX2_writePacket_19 ?_
  refine zx_get (C := RX5) (T := TX5) (N := 10) F hW wu_X5 (by decide) zx_E9 rfl 8 (by decide) wf_X2_91 rfl dX2_writePacket_22 ?_
  refine lv_iadd hx hb dX2_writePacket_25 ?_
  obtain ⟨r5, S6, h7, h⟩ := g_bd h
  refine zx_cv (zx_runV (q := (RX4, TX4, 2)) (As := [.int (((4 : Int32) * (S3 8 1)) + (S3 9 8))]) (rest := []) F hW (c_X4_add l D a cs k2 (((4 : Int32) * (S3 8 1)) + (S3 9 8)) hk2 S3 r5 S6 h7) Y_X4_add wi_X4_add ws_X4_add wm_X2_81 ⟨rfl, rfl, Nat.le_of_ble_eq_true rfl, Nat.le_of_ble_eq_true rfl, Nat.le_of_ble_eq_true rfl, Nat.le_of_ble_eq_true rfl⟩ (zx_row_l hk2).1 (zx_row_E hk2) rfl rfl hl.1 rfl (Nat.le_of_ble_eq_true rfl) dX2_writePacket_26) hS (fun H locs hW hS => ?_)
  refine lv_aload_n hx hb dX2_writePacket_29 rfl (lv_at hl 3 rfl) ?_
  refine lv_aload_n hx hb dX2_writePacket_30 rfl (lv_at hl 2 rfl) ?_
  refine zx_get (C := RX6) (T := TX6) (N := 2) F hW wu_X6 (zx_tab_l hk1).1 (zx_tab_E hk1) rfl 1 (by decide) wf_X2_96 rfl dX2_writePacket_31 ?_
  obtain ⟨r8, S9, h10, h⟩ := g_bd h
  refine zx_cv (zx_runV (q := (RX4, TX4, 2)) (As := [.int (S6 k1 1)]) (rest := []) F hW (c_X4_add l D a cs k2 (S6 k1 1) hk2 S6 r8 S9 h10) Y_X4_add wi_X4_add ws_X4_add wm_X2_81 ⟨rfl, rfl, Nat.le_of_ble_eq_true rfl, Nat.le_of_ble_eq_true rfl, Nat.le_of_ble_eq_true rfl, Nat.le_of_ble_eq_true rfl⟩ (zx_row_l hk2).1 (zx_row_E hk2) rfl rfl hl.1 rfl (Nat.le_of_ble_eq_true rfl) dX2_writePacket_34) hS (fun H locs hW hS => ?_)
  refine lv_aload_n hx hb dX2_writePacket_37 rfl (lv_at hl 3 rfl) ?_
  refine lv_aload_n hx hb dX2_writePacket_38 rfl (lv_at hl 2 rfl) ?_
  obtain ⟨r11, S12, h13, h⟩ := g_bd h
  refine zx_ci (zx_runV (q := (RX6, TX6, 2)) (As := []) (rest := [.ref (a k2)]) F hW (c_X6_different l D a cs fu k1 hk1 S9 r11 S12 h13) Y_X6_different wi_X6_different ws_X6_different wm_X2_101 ⟨rfl, rfl, Nat.le_of_ble_eq_true rfl, Nat.le_of_ble_eq_true rfl, Nat.le_of_ble_eq_true rfl, Nat.le_of_ble_eq_true rfl⟩ (zx_tab_l hk1).1 (zx_tab_E hk1) rfl rfl hl.1 rfl (Nat.le_of_ble_eq_true rfl) dX2_writePacket_39) hS (fun H locs hW hS => ?_)
  refine lv_iconst (v := 1) hx hb dX2_writePacket_42 (by decide) ?_
  refine lv_isub hx hb dX2_writePacket_43 ?_
  obtain ⟨r14, S15, h16, h⟩ := g_bd h
  refine zx_cv (zx_runV (q := (RX4, TX4, 2)) (As := [.int (r11 - (1 : Int32))]) (rest := []) F hW (c_X4_add l D a cs k2 (r11 - (1 : Int32)) hk2 S12 r14 S15 h16) Y_X4_add wi_X4_add ws_X4_add wm_X2_81 ⟨rfl, rfl, Nat.le_of_ble_eq_true rfl, Nat.le_of_ble_eq_true rfl, Nat.le_of_ble_eq_true rfl, Nat.le_of_ble_eq_true rfl⟩ (zx_row_l hk2).1 (zx_row_E hk2) rfl rfl hl.1 rfl (Nat.le_of_ble_eq_true rfl) dX2_writePacket_44) hS (fun H locs hW hS => ?_)
  refine lv_iconst (v := 0) hx hb dX2_writePacket_47 (by decide) ?_
  refine lv_istore (lv' := [(4, .int (0 : Int32)), (0, .ref (a 34)), (1, .ref (a 8)), (2, .ref (a k1)), (3, .ref (a k2))]) hx hb dX2_writePacket_48 hl (by decide) rfl (fun ls hl => ?_)
  exact k_X2_writePacket_L50 hk1 hk2 F hr   fu (0 : Int32) S15 h _ _ _ hW hS (lv_sub hl [1, 2, 3, 4, 0] rfl)
theorem Y_X3_clear : zx_Y yX3_clear cX3_clear 1 none 0 := ⟨wc_X3_clear, wn_X3, by decide, by decide, by decide +kernel⟩
set_option maxHeartbeats 4000000 in
set_option maxRecDepth 100000 in
theorem c_X3_clear (l : Launch) (D : va_G) (a : Nat → Nat) (cs : zx_C)   (S : St) (r9 : Int32) (S9 : St) (h : f_X3_clear  S = some (r9, S9)) : Met l yX3_clear (Cond.code yX3_clear cX3_clear 1 none :: zx_tb) ({ frames := 0, cells := 0, slots := 0, locals := 0 }) (zx_P D a cs [.ref (a 41)] S) (zx_Qv D a cs S9) 0 0 (zx_A a) := by
  refine zx_met (own := RX3) (by decide) (Nat.le_of_ble_eq_true rfl) rfl ?_
  intro p e s m below meth c ls F hr hW hS hl
  have hl : lv_has ls 1 [(0, .ref (a 41))] := hl
  obtain ⟨⟨hx, hb, hml, hown, hts⟩, hlk, hK, hJ, hN⟩ := id F
  unfold f_X3_clear at h
  refine lv_aload_n hx hb dX3_clear_0 rfl (lv_at hl 0 rfl) ?_
  refine zx_get (C := RX3) (T := TX3) (N := 3) F hW wu_X3 (by decide) zx_E41 rfl 0 (by decide) wf_X3_11 rfl dX3_clear_1 ?_
  refine lv_iconst (v := 0) hx hb dX3_clear_4 (by decide) ?_
  refine lv_iconst (v := 1) hx hb dX3_clear_5 (by decide) ?_
  obtain ⟨S1, eS1, h⟩ := g_pin h
  refine zx_iast (n := 562) F hW hS (by decide) (fun f => zx_E42) (by unfold vp_in; decide) dX3_clear_6 (fun H locs hW hS => ?_)
  have hW : zx_W D a cs S1 H := by rw [eS1]; exact hW
  refine lv_aload_n hx hb dX3_clear_7 rfl (lv_at hl 0 rfl) ?_
  refine lv_iconst (v := 1) hx hb dX3_clear_8 (by decide) ?_
  obtain ⟨S2, eS2, h⟩ := g_pin h
  refine zx_putv (C := RX3) (T := TX3) (N := 3) F hW hS wu_X3 tyX3_ok nmX3 (by decide) zx_E41 rfl 1 (by decide) wf_X3_15 rfl (1 : Int32) rfl rfl (Nat.le_of_ble_eq_true rfl) rfl dX3_clear_9 (fun H locs hW hS => ?_)
  have hW : zx_W D a cs S2 H := by rw [eS2]; exact hW
  refine lv_aload_n hx hb dX3_clear_12 rfl (lv_at hl 0 rfl) ?_
  refine lv_iconst (v := 1) hx hb dX3_clear_13 (by decide) ?_
  obtain ⟨S3, eS3, h⟩ := g_pin h
  refine zx_putv (C := RX3) (T := TX3) (N := 3) F hW hS wu_X3 tyX3_ok nmX3 (by decide) zx_E41 rfl 2 (by decide) wf_X3_19 rfl (1 : Int32) rfl rfl (Nat.le_of_ble_eq_true rfl) rfl dX3_clear_14 (fun H locs hW hS => ?_)
  have hW : zx_W D a cs S3 H := by rw [eS3]; exact hW
  exact zx_rv F hr hW hS h dX3_clear_17
theorem Y_X3_multiply : zx_Y yX3_multiply cX3_multiply 6 none 0 := ⟨wc_X3_multiply, wn_X3, by decide, by decide, by decide +kernel⟩
set_option maxHeartbeats 4000000 in
set_option maxRecDepth 100000 in
theorem k_X3_multiply_L91 {l : Launch} {D : va_G} {a : Nat → Nat} {cs : zx_C} {p : Program} {e : Env} {s : State} {m : MethodId} {below : List Frame} {meth : Method} {c : Code} {fu : Nat}   (F : zx_F D a cs p m c cX3_multiply 6 s ([.ref (a 41)] : List Value).toArray RX3 meth) (hr : meth.sig.returnType = none) {r9 : Int32} {S9 : St}     (S : St) (h : f_X3_multiply_L91 fu     S = some (r9, S9)) (H : Heap) (locs : List Loc) (ls : Array Slot) (hW : zx_W D a cs S H) (hS : va_S (zx_A a) s.heap H locs) (hl : lv_has ls 6 [(0, .ref (a 41))]) : W p l e ({ frames := 0, cells := 0, slots := 0, locals := 0 }) s m ([.ref (a 41)] : List Value).toArray below meth c H locs 0 0 (MQ below (zx_Qv D a cs S9) ([.ref (a 41)] : List Value).toArray s 0 0 (zx_A a)) (F0 m 91 ls []) := by
  obtain ⟨⟨hx, hb, hml, hown, hts⟩, hlk, hK, hJ, hN⟩ := id F
  unfold f_X3_multiply_L91 at h
  refine lv_aload_n hx hb dX3_multiply_91 rfl (lv_at hl 0 rfl) ?_
  refine lv_iconst (v := 1) hx hb dX3_multiply_92 (by decide) ?_
  obtain ⟨S3, eS3, h⟩ := g_pin h
  refine zx_putv (C := RX3) (T := TX3) (N := 3) F hW hS wu_X3 tyX3_ok nmX3 (by decide) zx_E41 rfl 2 (by decide) wf_X3_19 rfl (1 : Int32) rfl rfl (Nat.le_of_ble_eq_true rfl) rfl dX3_multiply_93 (fun H locs hW hS => ?_)
  have hW : zx_W D a cs S3 H := by rw [eS3]; exact hW
  exact zx_rv F hr hW hS h dX3_multiply_96
set_option maxHeartbeats 4000000 in
set_option maxRecDepth 100000 in
theorem k_X3_multiply_L4 {l : Launch} {D : va_G} {a : Nat → Nat} {cs : zx_C} {p : Program} {e : Env} {s : State} {m : MethodId} {below : List Frame} {meth : Method} {c : Code} {fu : Nat}   (F : zx_F D a cs p m c cX3_multiply 6 s ([.ref (a 41)] : List Value).toArray RX3 meth) (hr : meth.sig.returnType = none) {r9 : Int32} {S9 : St}    : ∀ (n : Nat) (v1 : Int64) (v3 : Int32) (S : St), f_X3_multiply_L4 fu    n v1 v3 S = some (r9, S9) → ∀ (H : Heap) (locs : List Loc) (ls : Array Slot), zx_W D a cs S H → va_S (zx_A a) s.heap H locs → lv_has ls 6 [(0, .ref (a 41)), (1, .long v1), (3, .int v3)] → W p l e ({ frames := 0, cells := 0, slots := 0, locals := 0 }) s m ([.ref (a 41)] : List Value).toArray below meth c H locs 0 0 (MQ below (zx_Qv D a cs S9) ([.ref (a 41)] : List Value).toArray s 0 0 (zx_A a)) (F0 m 4 ls []) := by
  obtain ⟨⟨hx, hb, hml, hown, hts⟩, hlk, hK, hJ, hN⟩ := id F
  intro n
  induction n with
  | zero =>
    intro v1 v3 S h
    exact absurd h (fun q => by cases q)
  | succ n ih =>
    intro v1 v3 S h H locs ls hW hS hl
    rw [f_X3_multiply_L4_s] at h
    refine lv_iload_n hx hb dX3_multiply_4 rfl (lv_at hl 2 rfl) ?_
    refine lv_aload_n hx hb dX3_multiply_5 rfl (lv_at hl 0 rfl) ?_
    refine zx_get (C := RX3) (T := TX3) (N := 3) F hW wu_X3 (by decide) zx_E41 rfl 1 (by decide) wf_X3_15 rfl dX3_multiply_6 ?_
    refine lv_icmp_ge (tgt := 54) hx hb dX3_multiply_9 (by decide) (fun c1 => ?_) (fun c1 => ?_)
    · have h := g_t c1 h
      refine lv_lload_n hx hb dX3_multiply_54 rfl (lv_at hl 1 rfl) ?_
      refine lv_lconst (v := 0) hx hb dX3_multiply_55 (by decide) ?_
      refine W.lcmp hx hb dX3_multiply_56 ?_
      refine lv_if_le (tgt := 91) hx hb dX3_multiply_57 (by decide) (fun c2 => ?_) (fun c2 => ?_)
      · have h := g_t c2 h
        exact k_X3_multiply_L91  F hr    S h _ _ _ hW hS (lv_sub hl [0] rfl)
      · have h := g_f c2 h
        refine lv_aload_n hx hb dX3_multiply_60 rfl (lv_at hl 0 rfl) ?_
        refine zx_get (C := RX3) (T := TX3) (N := 3) F hW wu_X3 (by decide) zx_E41 rfl 1 (by decide) wf_X3_15 rfl dX3_multiply_61 ?_
        refine lv_sipush (v := 562) hx hb dX3_multiply_64 (by decide) ?_
        refine lv_icmp_ge (tgt := 91) hx hb dX3_multiply_67 (by decide) (fun c4 => ?_) (fun c4 => ?_)
        · have h := g_t c4 h
          exact k_X3_multiply_L91  F hr    S h _ _ _ hW hS (lv_sub hl [0] rfl)
        · have h := g_f c4 h
          refine lv_aload_n hx hb dX3_multiply_70 rfl (lv_at hl 0 rfl) ?_
          refine zx_get (C := RX3) (T := TX3) (N := 3) F hW wu_X3 (by decide) zx_E41 rfl 0 (by decide) wf_X3_11 rfl dX3_multiply_71 ?_
          refine lv_aload_n hx hb dX3_multiply_74 rfl (lv_at hl 0 rfl) ?_
          refine zx_get (C := RX3) (T := TX3) (N := 3) F hW wu_X3 (by decide) zx_E41 rfl 1 (by decide) wf_X3_15 rfl dX3_multiply_75 ?_
          refine lv_lload_n hx hb dX3_multiply_78 rfl (lv_at hl 1 rfl) ?_
          refine lv_l2i hx hb dX3_multiply_79 rfl ?_
          obtain ⟨c6, h⟩ := g_no h
          obtain ⟨S5, eS5, h⟩ := g_pin h
          refine zx_iast (n := 562) F hW hS (by decide) (fun f => zx_E42) c6 dX3_multiply_80 (fun H locs hW hS => ?_)
          have hW : zx_W D a cs S5 H := by rw [eS5]; exact hW
          refine lv_aload_n hx hb dX3_multiply_81 rfl (lv_at hl 0 rfl) ?_
          refine lv_dup hx hb dX3_multiply_82 rfl ?_
          refine zx_get (C := RX3) (T := TX3) (N := 3) F hW wu_X3 (by decide) zx_E41 rfl 1 (by decide) wf_X3_15 rfl dX3_multiply_83 ?_
          refine lv_iconst (v := 1) hx hb dX3_multiply_86 (by decide) ?_
          refine lv_iadd hx hb dX3_multiply_87 ?_
          obtain ⟨S7, eS7, h⟩ := g_pin h
          refine zx_putv (C := RX3) (T := TX3) (N := 3) F hW hS wu_X3 tyX3_ok nmX3 (by decide) zx_E41 rfl 1 (by decide) wf_X3_15 rfl ((S5 41 1) + (1 : Int32)) rfl rfl (Nat.le_of_ble_eq_true rfl) rfl dX3_multiply_88 (fun H locs hW hS => ?_)
          have hW : zx_W D a cs S7 H := by rw [eS7]; exact hW
          exact k_X3_multiply_L91  F hr    S7 h _ _ _ hW hS (lv_sub hl [0] rfl)
    · have h := g_f c1 h
      refine lv_aload_n hx hb dX3_multiply_12 rfl (lv_at hl 0 rfl) ?_
      refine zx_get (C := RX3) (T := TX3) (N := 3) F hW wu_X3 (by decide) zx_E41 rfl 0 (by decide) wf_X3_11 rfl dX3_multiply_13 ?_
      refine lv_iload_n hx hb dX3_multiply_16 rfl (lv_at hl 2 rfl) ?_
      obtain ⟨c8, h⟩ := g_no h
      refine zx_iald (n := 562) F hW (by decide) zx_E42 c8 dX3_multiply_17 ?_
      refine lv_i2l hx hb dX3_multiply_18 rfl ?_
      refine lv_aload_n hx hb dX3_multiply_19 rfl (lv_at hl 0 rfl) ?_
      refine zx_get (C := RX3) (T := TX3) (N := 3) F hW wu_X3 (by decide) zx_E41 rfl 2 (by decide) wf_X3_19 rfl dX3_multiply_20 ?_
      refine lv_i2l hx hb dX3_multiply_23 rfl ?_
      refine lv_lmul hx hb dX3_multiply_24 ?_
      refine lv_lload_n hx hb dX3_multiply_25 rfl (lv_at hl 1 rfl) ?_
      refine lv_ladd hx hb dX3_multiply_26 ?_
      obtain ⟨x9, ex9, h⟩ := g_pin h
      refine zx_nml ex9 ?_
      refine lv_lstore (lv' := [(4, .long x9), (0, .ref (a 41)), (1, .long v1), (3, .int v3)]) hx hb dX3_multiply_27 hl (by decide) rfl (fun ls hl => ?_)
      refine lv_aload_n hx hb dX3_multiply_29 rfl (lv_at hl 1 rfl) ?_
      refine zx_get (C := RX3) (T := TX3) (N := 3) F hW wu_X3 (by decide) zx_E41 rfl 0 (by decide) wf_X3_11 rfl dX3_multiply_30 ?_
      refine lv_iload_n hx hb dX3_multiply_33 rfl (lv_at hl 3 rfl) ?_
      refine lv_lload hx hb dX3_multiply_34 (lv_at hl 0 rfl) ?_
      refine lv_ldc2 (v := 1073741823) hx hb hown (hts _ wl_X3_22) dX3_multiply_36 ?_
      refine lv_land hx hb dX3_multiply_39 ?_
      refine lv_l2i hx hb dX3_multiply_40 rfl ?_
      obtain ⟨c11, h⟩ := g_no h
      obtain ⟨S10, eS10, h⟩ := g_pin h
      refine zx_iast (n := 562) F hW hS (by decide) (fun f => zx_E42) c11 dX3_multiply_41 (fun H locs hW hS => ?_)
      have hW : zx_W D a cs S10 H := by rw [eS10]; exact hW
      refine lv_lload hx hb dX3_multiply_42 (lv_at hl 0 rfl) ?_
      refine lv_bipush (v := 30) hx hb dX3_multiply_44 (by decide) ?_
      refine lv_lshr hx hb dX3_multiply_46 rfl ?_
      obtain ⟨x12, ex12, h⟩ := g_pin h
      refine zx_nml ex12 ?_
      refine lv_lstore_n (lv' := [(1, .long x12), (4, .long x9), (0, .ref (a 41)), (3, .int v3)]) hx hb dX3_multiply_47 rfl hl (by decide) rfl (fun ls hl => ?_)
      obtain ⟨x13, ex13, h⟩ := g_pin h
      refine lv_iinc (v := x13) (lv' := [(3, .int x13), (1, .long x12), (4, .long x9), (0, .ref (a 41))]) hx hb dX3_multiply_48 hl (k := 3) rfl (by rw [ex13]; rfl) (by decide) rfl (fun ls hl => ?_)
      refine lv_goto (tgt := 4) hx hb dX3_multiply_51 (by decide) ?_
      exact ih x12 x13 S10 h _ _ _ hW hS (lv_sub hl [3, 1, 0] rfl)
set_option maxHeartbeats 4000000 in
set_option maxRecDepth 100000 in
theorem c_X3_multiply (l : Launch) (D : va_G) (a : Nat → Nat) (cs : zx_C) (fu : Nat)   (S : St) (r9 : Int32) (S9 : St) (h : f_X3_multiply fu  S = some (r9, S9)) : Met l yX3_multiply (Cond.code yX3_multiply cX3_multiply 6 none :: zx_tb) ({ frames := 0, cells := 0, slots := 0, locals := 0 }) (zx_P D a cs [.ref (a 41)] S) (zx_Qv D a cs S9) 0 0 (zx_A a) := by
  refine zx_met (own := RX3) (by decide) (Nat.le_of_ble_eq_true rfl) rfl ?_
  intro p e s m below meth c ls F hr hW hS hl
  have hl : lv_has ls 6 [(0, .ref (a 41))] := hl
  obtain ⟨⟨hx, hb, hml, hown, hts⟩, hlk, hK, hJ, hN⟩ := id F
  unfold f_X3_multiply at h
  refine lv_lconst (v := 0) hx hb dX3_multiply_0 (by decide) ?_
  refine lv_lstore_n (lv' := [(1, .long (0 : Int64)), (0, .ref (a 41))]) hx hb dX3_multiply_1 rfl hl (by decide) rfl (fun ls hl => ?_)
  refine lv_iconst (v := 0) hx hb dX3_multiply_2 (by decide) ?_
  refine lv_istore_n (lv' := [(3, .int (0 : Int32)), (1, .long (0 : Int64)), (0, .ref (a 41))]) hx hb dX3_multiply_3 rfl hl (by decide) rfl (fun ls hl => ?_)
  exact k_X3_multiply_L4  F hr   fu (0 : Int64) (0 : Int32) S h _ _ _ hW hS (lv_sub hl [2, 1, 0] rfl)
theorem Y_X3_highestBit : zx_Y yX3_highestBit cX3_highestBit 2 (some (.int)) 0 := ⟨wc_X3_highestBit, wn_X3, by decide, by decide, by decide +kernel⟩
set_option maxHeartbeats 4000000 in
set_option maxRecDepth 100000 in
theorem c_X3_highestBit (l : Launch) (D : va_G) (a : Nat → Nat) (cs : zx_C) (fu : Nat)   (S : St) (r9 : Int32) (S9 : St) (h : f_X3_highestBit fu  S = some (r9, S9)) : Met l yX3_highestBit (Cond.code yX3_highestBit cX3_highestBit 2 (some (.int)) :: zx_tb) ({ frames := 1, cells := 0, slots := 0, locals := 25 }) (zx_P D a cs [.ref (a 41)] S) (zx_Qi D a cs r9 S9) 0 0 (zx_A a) := by
  refine zx_met (own := RX3) (by decide) (Nat.le_of_ble_eq_true rfl) rfl ?_
  intro p e s m below meth c ls F hr hW hS hl
  have hl : lv_has ls 2 [(0, .ref (a 41))] := hl
  obtain ⟨⟨hx, hb, hml, hown, hts⟩, hlk, hK, hJ, hN⟩ := id F
  unfold f_X3_highestBit at h
  refine lv_aload_n hx hb dX3_highestBit_0 rfl (lv_at hl 0 rfl) ?_
  obtain ⟨r1, S2, h3, h⟩ := g_bd h
  refine zx_cv (zx_runV (q := (RX3, TX3, 3)) (As := []) (rest := []) F hW (c_X3_multiply l D a cs fu   S r1 S2 h3) Y_X3_multiply wi_X3_multiply ws_X3_multiply wm_X3_24 ⟨rfl, rfl, Nat.le_of_ble_eq_true rfl, Nat.le_of_ble_eq_true rfl, Nat.le_of_ble_eq_true rfl, Nat.le_of_ble_eq_true rfl⟩ (by decide) zx_E41 rfl rfl hl.1 rfl (Nat.le_of_ble_eq_true rfl) dX3_highestBit_1) hS (fun H locs hW hS => ?_)
  refine lv_aload_n hx hb dX3_highestBit_4 rfl (lv_at hl 0 rfl) ?_
  refine zx_get (C := RX3) (T := TX3) (N := 3) F hW wu_X3 (by decide) zx_E41 rfl 0 (by decide) wf_X3_11 rfl dX3_highestBit_5 ?_
  refine lv_aload_n hx hb dX3_highestBit_8 rfl (lv_at hl 0 rfl) ?_
  refine zx_get (C := RX3) (T := TX3) (N := 3) F hW wu_X3 (by decide) zx_E41 rfl 1 (by decide) wf_X3_15 rfl dX3_highestBit_9 ?_
  refine lv_iconst (v := 1) hx hb dX3_highestBit_12 (by decide) ?_
  refine lv_isub hx hb dX3_highestBit_13 ?_
  obtain ⟨c4, h⟩ := g_no h
  refine zx_iald (n := 562) F hW (by decide) zx_E42 c4 dX3_highestBit_14 ?_
  obtain ⟨x5, ex5, h⟩ := g_pin h
  refine zx_nm ex5 ?_
  refine lv_istore_n (lv' := [(1, .int x5), (0, .ref (a 41))]) hx hb dX3_highestBit_15 rfl hl (by decide) rfl (fun ls hl => ?_)
  refine lv_bipush (v := 30) hx hb dX3_highestBit_16 (by decide) ?_
  refine lv_aload_n hx hb dX3_highestBit_18 rfl (lv_at hl 1 rfl) ?_
  refine zx_get (C := RX3) (T := TX3) (N := 3) F hW wu_X3 (by decide) zx_E41 rfl 1 (by decide) wf_X3_15 rfl dX3_highestBit_19 ?_
  refine lv_iconst (v := 1) hx hb dX3_highestBit_22 (by decide) ?_
  refine lv_isub hx hb dX3_highestBit_23 ?_
  refine lv_imul hx hb dX3_highestBit_24 ?_
  refine lv_bipush (v := 31) hx hb dX3_highestBit_25 (by decide) ?_
  refine lv_iadd hx hb dX3_highestBit_27 ?_
  refine lv_iload_n hx hb dX3_highestBit_28 rfl (lv_at hl 0 rfl) ?_
  obtain ⟨r6, S7, h8, h⟩ := g_bd h
  refine zx_ci (zx_runS (As := [.int x5]) (rest := [.int (((30 : Int32) * ((S2 41 1) - (1 : Int32))) + (31 : Int32))]) F hW (c_J6_numberOfLeadingZeros_0f7a4 l D a cs x5  S2 r6 S7 h8) Y_J6_numberOfLeadingZeros_0f7a4 wt_J6_numberOfLeadingZeros_0f7a4 wm_X3_27 ⟨rfl, rfl, Nat.le_of_ble_eq_true rfl, Nat.le_of_ble_eq_true rfl, Nat.le_of_ble_eq_true rfl, Nat.le_of_ble_eq_true rfl⟩ rfl hl.1 rfl (Nat.le_of_ble_eq_true rfl) dX3_highestBit_29) hS (fun H locs hW hS => ?_)
  refine lv_isub hx hb dX3_highestBit_32 ?_
  exact zx_ri F hr hW hS h dX3_highestBit_33
theorem Y_X3_times : zx_Y yX3_times cX3_times 2 none 1 := ⟨wc_X3_times, wn_X3, by decide, by decide, by decide +kernel⟩
set_option maxHeartbeats 4000000 in
set_option maxRecDepth 100000 in
theorem k_X3_times_L19 {l : Launch} {D : va_G} {a : Nat → Nat} {cs : zx_C} {p : Program} {e : Env} {s : State} {m : MethodId} {below : List Frame} {meth : Method} {c : Code} {fu : Nat} {p0 : Int32}  (F : zx_F D a cs p m c cX3_times 2 s ([.ref (a 41), .int p0] : List Value).toArray RX3 meth) (hr : meth.sig.returnType = none) {r9 : Int32} {S9 : St}    (v1 : Int32) (S : St) (h : f_X3_times_L19 fu p0   v1 S = some (r9, S9)) (H : Heap) (locs : List Loc) (ls : Array Slot) (hW : zx_W D a cs S H) (hS : va_S (zx_A a) s.heap H locs) (hl : lv_has ls 2 [(0, .ref (a 41)), (1, .int v1)]) : W p l e ({ frames := 1, cells := 0, slots := 0, locals := 25 }) s m ([.ref (a 41), .int p0] : List Value).toArray below meth c H locs 0 0 (MQ below (zx_Qv D a cs S9) ([.ref (a 41), .int p0] : List Value).toArray s 0 0 (zx_A a)) (F0 m 19 ls []) := by
  obtain ⟨⟨hx, hb, hml, hown, hts⟩, hlk, hK, hJ, hN⟩ := id F
  unfold f_X3_times_L19 at h
  refine lv_aload_n hx hb dX3_times_19 rfl (lv_at hl 0 rfl) ?_
  refine lv_dup hx hb dX3_times_20 rfl ?_
  refine zx_get (C := RX3) (T := TX3) (N := 3) F hW wu_X3 (by decide) zx_E41 rfl 2 (by decide) wf_X3_19 rfl dX3_times_21 ?_
  refine lv_iload_n hx hb dX3_times_24 rfl (lv_at hl 1 rfl) ?_
  refine lv_imul hx hb dX3_times_25 ?_
  obtain ⟨S2, eS2, h⟩ := g_pin h
  refine zx_putv (C := RX3) (T := TX3) (N := 3) F hW hS wu_X3 tyX3_ok nmX3 (by decide) zx_E41 rfl 2 (by decide) wf_X3_19 rfl ((S 41 2) * v1) rfl rfl (Nat.le_of_ble_eq_true rfl) rfl dX3_times_26 (fun H locs hW hS => ?_)
  have hW : zx_W D a cs S2 H := by rw [eS2]; exact hW
  exact zx_rv F hr hW hS h dX3_times_29
set_option maxHeartbeats 4000000 in
set_option maxRecDepth 100000 in
theorem c_X3_times (l : Launch) (D : va_G) (a : Nat → Nat) (cs : zx_C) (fu : Nat) (p0 : Int32)  (S : St) (r9 : Int32) (S9 : St) (h : f_X3_times fu p0 S = some (r9, S9)) : Met l yX3_times (Cond.code yX3_times cX3_times 2 none :: zx_tb) ({ frames := 1, cells := 0, slots := 0, locals := 25 }) (zx_P D a cs [.ref (a 41), .int p0] S) (zx_Qv D a cs S9) 0 0 (zx_A a) := by
  refine zx_met (own := RX3) (by decide) (Nat.le_of_ble_eq_true rfl) rfl ?_
  intro p e s m below meth c ls F hr hW hS hl
  have hl : lv_has ls 2 [(0, .ref (a 41)), (1, .int p0)] := hl
  obtain ⟨⟨hx, hb, hml, hown, hts⟩, hlk, hK, hJ, hN⟩ := id F
  unfold f_X3_times at h
  refine lv_aload_n hx hb dX3_times_0 rfl (lv_at hl 0 rfl) ?_
  refine zx_get (C := RX3) (T := TX3) (N := 3) F hW wu_X3 (by decide) zx_E41 rfl 2 (by decide) wf_X3_19 rfl dX3_times_1 ?_
  refine lv_i2l hx hb dX3_times_4 rfl ?_
  refine lv_iload_n hx hb dX3_times_5 rfl (lv_at hl 1 rfl) ?_
  refine lv_i2l hx hb dX3_times_6 rfl ?_
  refine lv_lmul hx hb dX3_times_7 ?_
  refine lv_ldc2 (v := 1073741823) hx hb hown (hts _ wl_X3_22) dX3_times_8 ?_
  refine W.lcmp hx hb dX3_times_11 ?_
  refine lv_if_le (tgt := 19) hx hb dX3_times_12 (by decide) (fun c1 => ?_) (fun c1 => ?_)
  · have h := g_t c1 h
    exact k_X3_times_L19  F hr   p0 S h _ _ _ hW hS (lv_sub hl [0, 1] rfl)
  · have h := g_f c1 h
    refine lv_aload_n hx hb dX3_times_15 rfl (lv_at hl 0 rfl) ?_
    obtain ⟨r3, S4, h5, h⟩ := g_bd h
    refine zx_cv (zx_runV (q := (RX3, TX3, 3)) (As := []) (rest := []) F hW (c_X3_multiply l D a cs fu   S r3 S4 h5) Y_X3_multiply wi_X3_multiply ws_X3_multiply wm_X3_24 ⟨rfl, rfl, Nat.le_of_ble_eq_true rfl, Nat.le_of_ble_eq_true rfl, Nat.le_of_ble_eq_true rfl, Nat.le_of_ble_eq_true rfl⟩ (by decide) zx_E41 rfl rfl hl.1 rfl (Nat.le_of_ble_eq_true rfl) dX3_times_16) hS (fun H locs hW hS => ?_)
    exact k_X3_times_L19  F hr   p0 S4 h _ _ _ hW hS (lv_sub hl [0, 1] rfl)
theorem Y_X4_copy : zx_Y yX4_copy cX4_copy 2 none 1 := ⟨wc_X4_copy, wn_X4, by decide, by decide, by decide +kernel⟩
set_option maxHeartbeats 4000000 in
set_option maxRecDepth 100000 in
theorem c_X4_copy (l : Launch) (D : va_G) (a : Nat → Nat) (cs : zx_C) (k : Nat) (k0 : Nat) (hk : zx_row k = true) (hk0 : zx_row k0 = true) (S : St) (r9 : Int32) (S9 : St) (h : f_X4_copy k k0 S = some (r9, S9)) : Met l yX4_copy (Cond.code yX4_copy cX4_copy 2 none :: zx_tb) ({ frames := 1, cells := 0, slots := 0, locals := 34 }) (zx_P D a cs [.ref (a k), .ref (a k0)] S) (zx_Qv D a cs S9) 0 0 (zx_A a) := by
  refine zx_met (own := RX4) (by decide) (Nat.le_of_ble_eq_true rfl) rfl ?_
  intro p e s m below meth c ls F hr hW hS hl
  have hl : lv_has ls 2 [(0, .ref (a k)), (1, .ref (a k0))] := hl
  obtain ⟨⟨hx, hb, hml, hown, hts⟩, hlk, hK, hJ, hN⟩ := id F
  unfold f_X4_copy at h
  refine lv_aload_n hx hb dX4_copy_0 rfl (lv_at hl 1 rfl) ?_
  refine zx_get (C := RX4) (T := TX4) (N := 2) F hW wu_X4 (zx_row_l hk0).1 (zx_row_E hk0) rfl 0 (by decide) wf_X4_9 rfl dX4_copy_1 ?_
  refine lv_iconst (v := 0) hx hb dX4_copy_4 (by decide) ?_
  refine lv_aload_n hx hb dX4_copy_5 rfl (lv_at hl 0 rfl) ?_
  refine zx_get (C := RX4) (T := TX4) (N := 2) F hW wu_X4 (zx_row_l hk).1 (zx_row_E hk) rfl 0 (by decide) wf_X4_9 rfl dX4_copy_6 ?_
  refine lv_iconst (v := 0) hx hb dX4_copy_9 (by decide) ?_
  refine lv_sipush (v := 4000) hx hb dX4_copy_10 (by decide) ?_
  obtain ⟨c1, h⟩ := g_ok h
  obtain ⟨S2, eS2, h⟩ := g_pin h
  refine zx_copy (n := 4000) (t0 := 1) (ty := .byte) F hW hS hl.1 wm_X4_23 rfl rfl (zx_row_l hk0).2 (zx_row_l hk).2 (fun f => (zx_row_A hk0)) (fun f => (zx_row_A hk)) (by decide) (by decide) c1 ⟨Nat.le_of_ble_eq_true rfl, by decide⟩ (Nat.le_of_ble_eq_true rfl) dX4_copy_13 (fun H locs hW hS => ?_)
  have hW : zx_W D a cs S2 H := by rw [eS2]; exact hW
  refine lv_aload_n hx hb dX4_copy_16 rfl (lv_at hl 0 rfl) ?_
  refine lv_aload_n hx hb dX4_copy_17 rfl (lv_at hl 1 rfl) ?_
  refine zx_get (C := RX4) (T := TX4) (N := 2) F hW wu_X4 (zx_row_l hk0).1 (zx_row_E hk0) rfl 1 (by decide) wf_X4_15 rfl dX4_copy_18 ?_
  obtain ⟨S3, eS3, h⟩ := g_pin h
  refine zx_putv (C := RX4) (T := TX4) (N := 2) F hW hS wu_X4 tyX4_ok nmX4 (zx_row_l hk).1 (zx_row_E hk) rfl 1 (by decide) wf_X4_15 rfl (S2 k0 1) rfl rfl (Nat.le_of_ble_eq_true rfl) (by rw [(zx_row_E hk)]; rfl) dX4_copy_21 (fun H locs hW hS => ?_)
  have hW : zx_W D a cs S3 H := by rw [eS3]; exact hW
  exact zx_rv F hr hW hS h dX4_copy_24
theorem Y_X6_lack : zx_Y yX6_lack cX6_lack 4 (some (.int)) 3 := ⟨wc_X6_lack, wn_X6, by decide, by decide, by decide +kernel⟩
set_option maxHeartbeats 4000000 in
set_option maxRecDepth 100000 in
theorem c_X6_lack (l : Launch) (D : va_G) (a : Nat → Nat) (cs : zx_C) (k : Nat) (p0 : Int32) (p2 : Int32) (hk : zx_tab k = true) (S : St) (r9 : Int32) (S9 : St) (h : f_X6_lack k p0 p2 S = some (r9, S9)) : Met l yX6_lack (Cond.code yX6_lack cX6_lack 4 (some (.int)) :: zx_tb) ({ frames := 1, cells := 0, slots := 0, locals := 20 }) (zx_P D a cs [.ref (a k), .int p0, .ref (a 6), .int p2] S) (zx_Qi D a cs r9 S9) 0 0 (zx_A a) := by
  refine zx_met (own := RX6) (by decide) (Nat.le_of_ble_eq_true rfl) rfl ?_
  intro p e s m below meth c ls F hr hW hS hl
  have hl : lv_has ls 4 [(0, .ref (a k)), (1, .int p0), (2, .ref (a 6)), (3, .int p2)] := hl
  obtain ⟨⟨hx, hb, hml, hown, hts⟩, hlk, hK, hJ, hN⟩ := id F
  unfold f_X6_lack at h
  refine lv_aload_n hx hb dX6_lack_0 rfl (lv_at hl 2 rfl) ?_
  refine lv_iload_n hx hb dX6_lack_1 rfl (lv_at hl 1 rfl) ?_
  obtain ⟨c1, h⟩ := g_no h
  refine zx_iald (n := 256) F hW (by decide) zx_E6 c1 dX6_lack_2 ?_
  refine lv_aload_n hx hb dX6_lack_3 rfl (lv_at hl 0 rfl) ?_
  obtain ⟨r2, S3, h4, h⟩ := g_bd h
  refine zx_ci (zx_runV (q := (RX6, TX6, 2)) (As := []) (rest := [.int (S 6 p0.toNatClampNeg)]) F hW (c_X6_places l D a cs k hk S r2 S3 h4) Y_X6_places wi_X6_places ws_X6_places wm_X6_33 ⟨rfl, rfl, Nat.le_of_ble_eq_true rfl, Nat.le_of_ble_eq_true rfl, Nat.le_of_ble_eq_true rfl, Nat.le_of_ble_eq_true rfl⟩ (zx_tab_l hk).1 (zx_tab_E hk) rfl rfl hl.1 rfl (Nat.le_of_ble_eq_true rfl) dX6_lack_4) hS (fun H locs hW hS => ?_)
  refine lv_imul hx hb dX6_lack_7 ?_
  refine lv_aload_n hx hb dX6_lack_8 rfl (lv_at hl 0 rfl) ?_
  refine zx_get (C := RX6) (T := TX6) (N := 2) F hW wu_X6 (zx_tab_l hk).1 (zx_tab_E hk) rfl 0 (by decide) wf_X6_9 rfl dX6_lack_9 ?_
  refine lv_iload_n hx hb dX6_lack_12 rfl (lv_at hl 1 rfl) ?_
  obtain ⟨c5, h⟩ := g_no h
  refine zx_iald (n := 256) F hW (zx_tab_l hk).2 (zx_tab_A hk) c5 dX6_lack_13 ?_
  refine lv_iload_n hx hb dX6_lack_14 rfl (lv_at hl 3 rfl) ?_
  refine lv_imul hx hb dX6_lack_15 ?_
  refine lv_isub hx hb dX6_lack_16 ?_
  exact zx_ri F hr hW hS h dX6_lack_17
theorem Y_X6_leastLacking : zx_Y yX6_leastLacking cX6_leastLacking 6 (some (.int)) 2 := ⟨wc_X6_leastLacking, wn_X6, by decide, by decide, by decide +kernel⟩
set_option maxHeartbeats 4000000 in
set_option maxRecDepth 100000 in
theorem k_X6_leastLacking_L58 {l : Launch} {D : va_G} {a : Nat → Nat} {cs : zx_C} {p : Program} {e : Env} {s : State} {m : MethodId} {below : List Frame} {meth : Method} {c : Code} {fu : Nat} {k : Nat} {p1 : Int32} (hk : zx_tab k = true) (F : zx_F D a cs p m c cX6_leastLacking 6 s ([.ref (a k), .ref (a 6), .int p1] : List Value).toArray RX6 meth) (hr : meth.sig.returnType = (some (.int))) {r9 : Int32} {S9 : St} {K8 : Int32 → Int32 → Int32 → Int32 → St → Option (Int32 × St)} (hK8 : ∀ (v2 : Int32) (v3 : Int32) (v4 : Int32) (v5 : Int32) (S : St), K8 v2 v3 v4 v5 S = some (r9, S9) → ∀ (H : Heap) (locs : List Loc) (ls : Array Slot), zx_W D a cs S H → va_S (zx_A a) s.heap H locs → lv_has ls 6 [(0, .ref (a k)), (1, .ref (a 6)), (2, .int v2), (3, .int v3), (4, .int v4), (5, .int v5)] → W p l e ({ frames := 2, cells := 0, slots := 0, locals := 43 }) s m ([.ref (a k), .ref (a 6), .int p1] : List Value).toArray below meth c H locs 0 0 (MQ below (zx_Qi D a cs r9 S9) ([.ref (a k), .ref (a 6), .int p1] : List Value).toArray s 0 0 (zx_A a)) (F0 m 8 ls []))  (v2 : Int32) (v3 : Int32) (v4 : Int32) (v5 : Int32) (S : St) (h : f_X6_leastLacking_L58 fu k p1 K8  v2 v3 v4 v5 S = some (r9, S9)) (H : Heap) (locs : List Loc) (ls : Array Slot) (hW : zx_W D a cs S H) (hS : va_S (zx_A a) s.heap H locs) (hl : lv_has ls 6 [(0, .ref (a k)), (1, .ref (a 6)), (2, .int v2), (3, .int v3), (4, .int v4), (5, .int v5)]) : W p l e ({ frames := 2, cells := 0, slots := 0, locals := 43 }) s m ([.ref (a k), .ref (a 6), .int p1] : List Value).toArray below meth c H locs 0 0 (MQ below (zx_Qi D a cs r9 S9) ([.ref (a k), .ref (a 6), .int p1] : List Value).toArray s 0 0 (zx_A a)) (F0 m 58 ls []) := by
  obtain ⟨⟨hx, hb, hml, hown, hts⟩, hlk, hK, hJ, hN⟩ := id F
  unfold f_X6_leastLacking_L58 at h
  obtain ⟨x4, ex4, h⟩ := g_pin h
  refine lv_iinc (v := x4) (lv' := [(5, .int x4), (0, .ref (a k)), (1, .ref (a 6)), (2, .int v2), (3, .int v3), (4, .int v4)]) hx hb dX6_leastLacking_58 hl (k := 5) rfl (by rw [ex4]; rfl) (by decide) rfl (fun ls hl => ?_)
  refine lv_goto (tgt := 8) hx hb dX6_leastLacking_61 (by decide) ?_
  exact hK8 v2 v3 v4 x4 S h _ _ _ hW hS (lv_sub hl [1, 2, 3, 4, 5, 0] rfl)
set_option maxHeartbeats 4000000 in
set_option maxRecDepth 100000 in
theorem k_X6_leastLacking_L45 {l : Launch} {D : va_G} {a : Nat → Nat} {cs : zx_C} {p : Program} {e : Env} {s : State} {m : MethodId} {below : List Frame} {meth : Method} {c : Code} {fu : Nat} {k : Nat} {p1 : Int32} (hk : zx_tab k = true) (F : zx_F D a cs p m c cX6_leastLacking 6 s ([.ref (a k), .ref (a 6), .int p1] : List Value).toArray RX6 meth) (hr : meth.sig.returnType = (some (.int))) {r9 : Int32} {S9 : St} {K8 : Int32 → Int32 → Int32 → Int32 → St → Option (Int32 × St)} (hK8 : ∀ (v2 : Int32) (v3 : Int32) (v4 : Int32) (v5 : Int32) (S : St), K8 v2 v3 v4 v5 S = some (r9, S9) → ∀ (H : Heap) (locs : List Loc) (ls : Array Slot), zx_W D a cs S H → va_S (zx_A a) s.heap H locs → lv_has ls 6 [(0, .ref (a k)), (1, .ref (a 6)), (2, .int v2), (3, .int v3), (4, .int v4), (5, .int v5)] → W p l e ({ frames := 2, cells := 0, slots := 0, locals := 43 }) s m ([.ref (a k), .ref (a 6), .int p1] : List Value).toArray below meth c H locs 0 0 (MQ below (zx_Qi D a cs r9 S9) ([.ref (a k), .ref (a 6), .int p1] : List Value).toArray s 0 0 (zx_A a)) (F0 m 8 ls []))  (v2 : Int32) (v5 : Int32) (S : St) (h : f_X6_leastLacking_L45 fu k p1 K8  v2 v5 S = some (r9, S9)) (H : Heap) (locs : List Loc) (ls : Array Slot) (hW : zx_W D a cs S H) (hS : va_S (zx_A a) s.heap H locs) (hl : lv_has ls 6 [(0, .ref (a k)), (1, .ref (a 6)), (2, .int v2), (5, .int v5)]) : W p l e ({ frames := 2, cells := 0, slots := 0, locals := 43 }) s m ([.ref (a k), .ref (a 6), .int p1] : List Value).toArray below meth c H locs 0 0 (MQ below (zx_Qi D a cs r9 S9) ([.ref (a k), .ref (a 6), .int p1] : List Value).toArray s 0 0 (zx_A a)) (F0 m 45 ls []) := by
  obtain ⟨⟨hx, hb, hml, hown, hts⟩, hlk, hK, hJ, hN⟩ := id F
  unfold f_X6_leastLacking_L45 at h
  refine lv_iload hx hb dX6_leastLacking_45 (lv_at hl 3 rfl) ?_
  refine lv_istore_n (lv' := [(3, .int v5), (0, .ref (a k)), (1, .ref (a 6)), (2, .int v2), (5, .int v5)]) hx hb dX6_leastLacking_47 rfl hl (by decide) rfl (fun ls hl => ?_)
  refine lv_aload_n hx hb dX6_leastLacking_48 rfl (lv_at hl 1 rfl) ?_
  refine lv_iload hx hb dX6_leastLacking_49 (lv_at hl 4 rfl) ?_
  refine lv_aload_n hx hb dX6_leastLacking_51 rfl (lv_at hl 2 rfl) ?_
  refine lv_iload_n hx hb dX6_leastLacking_52 rfl (lv_at hl 3 rfl) ?_
  obtain ⟨r6, S7, h8, h⟩ := g_bd h
  refine zx_ci (zx_runV (q := (RX6, TX6, 2)) (As := [.int v5, .ref (a 6), .int v2]) (rest := []) F hW (c_X6_lack l D a cs k v5 v2 hk S r6 S7 h8) Y_X6_lack wi_X6_lack ws_X6_lack wm_X6_54 ⟨rfl, rfl, Nat.le_of_ble_eq_true rfl, Nat.le_of_ble_eq_true rfl, Nat.le_of_ble_eq_true rfl, Nat.le_of_ble_eq_true rfl⟩ (zx_tab_l hk).1 (zx_tab_E hk) rfl rfl hl.1 rfl (Nat.le_of_ble_eq_true rfl) dX6_leastLacking_53) hS (fun H locs hW hS => ?_)
  refine lv_istore (lv' := [(4, .int r6), (3, .int v5), (0, .ref (a k)), (1, .ref (a 6)), (2, .int v2), (5, .int v5)]) hx hb dX6_leastLacking_56 hl (by decide) rfl (fun ls hl => ?_)
  exact k_X6_leastLacking_L58 hk F hr hK8  v2 v5 r6 v5 S7 h _ _ _ hW hS (lv_sub hl [2, 3, 4, 1, 0, 5] rfl)
set_option maxHeartbeats 4000000 in
set_option maxRecDepth 100000 in
theorem k_X6_leastLacking_L8 {l : Launch} {D : va_G} {a : Nat → Nat} {cs : zx_C} {p : Program} {e : Env} {s : State} {m : MethodId} {below : List Frame} {meth : Method} {c : Code} {fu : Nat} {k : Nat} {p1 : Int32} (hk : zx_tab k = true) (F : zx_F D a cs p m c cX6_leastLacking 6 s ([.ref (a k), .ref (a 6), .int p1] : List Value).toArray RX6 meth) (hr : meth.sig.returnType = (some (.int))) {r9 : Int32} {S9 : St}    : ∀ (n : Nat) (v2 : Int32) (v3 : Int32) (v4 : Int32) (v5 : Int32) (S : St), f_X6_leastLacking_L8 fu k p1   n v2 v3 v4 v5 S = some (r9, S9) → ∀ (H : Heap) (locs : List Loc) (ls : Array Slot), zx_W D a cs S H → va_S (zx_A a) s.heap H locs → lv_has ls 6 [(0, .ref (a k)), (1, .ref (a 6)), (2, .int v2), (3, .int v3), (4, .int v4), (5, .int v5)] → W p l e ({ frames := 2, cells := 0, slots := 0, locals := 43 }) s m ([.ref (a k), .ref (a 6), .int p1] : List Value).toArray below meth c H locs 0 0 (MQ below (zx_Qi D a cs r9 S9) ([.ref (a k), .ref (a 6), .int p1] : List Value).toArray s 0 0 (zx_A a)) (F0 m 8 ls []) := by
  obtain ⟨⟨hx, hb, hml, hown, hts⟩, hlk, hK, hJ, hN⟩ := id F
  intro n
  induction n with
  | zero =>
    intro v2 v3 v4 v5 S h
    exact absurd h (fun q => by cases q)
  | succ n ih =>
    intro v2 v3 v4 v5 S h H locs ls hW hS hl
    rw [f_X6_leastLacking_L8_s] at h
    refine lv_iload hx hb dX6_leastLacking_8 (lv_at hl 5 rfl) ?_
    refine lv_sipush (v := 256) hx hb dX6_leastLacking_10 (by decide) ?_
    refine lv_icmp_ge (tgt := 64) hx hb dX6_leastLacking_13 (by decide) (fun c1 => ?_) (fun c1 => ?_)
    · have h := g_t c1 h
      refine lv_iload_n hx hb dX6_leastLacking_64 rfl (lv_at hl 3 rfl) ?_
      exact zx_ri F hr hW hS h dX6_leastLacking_65
    · have h := g_f c1 h
      refine lv_aload_n hx hb dX6_leastLacking_16 rfl (lv_at hl 0 rfl) ?_
      refine zx_get (C := RX6) (T := TX6) (N := 2) F hW wu_X6 (zx_tab_l hk).1 (zx_tab_E hk) rfl 0 (by decide) wf_X6_9 rfl dX6_leastLacking_17 ?_
      refine lv_iload hx hb dX6_leastLacking_20 (lv_at hl 5 rfl) ?_
      obtain ⟨c2, h⟩ := g_no h
      refine zx_iald (n := 256) F hW (zx_tab_l hk).2 (zx_tab_A hk) c2 dX6_leastLacking_22 ?_
      refine lv_iconst (v := 1) hx hb dX6_leastLacking_23 (by decide) ?_
      refine lv_icmp_le (tgt := 58) hx hb dX6_leastLacking_24 (by decide) (fun c3 => ?_) (fun c3 => ?_)
      · have h := g_t c3 h
        exact k_X6_leastLacking_L58 hk F hr ih  v2 v3 v4 v5 S h _ _ _ hW hS (lv_sub hl [0, 1, 2, 3, 4, 5] rfl)
      · have h := g_f c3 h
        refine lv_iload_n hx hb dX6_leastLacking_27 rfl (lv_at hl 3 rfl) ?_
        refine lv_iconst (v := -1) hx hb dX6_leastLacking_28 (by decide) ?_
        refine lv_icmp_eq (tgt := 45) hx hb dX6_leastLacking_29 (by decide) (fun c5 => ?_) (fun c5 => ?_)
        · have h := g_t c5 h
          exact k_X6_leastLacking_L45 hk F hr ih  v2 v5 S h _ _ _ hW hS (lv_sub hl [0, 1, 2, 5] rfl)
        · have h := g_f c5 h
          refine lv_aload_n hx hb dX6_leastLacking_32 rfl (lv_at hl 0 rfl) ?_
          refine lv_iload hx hb dX6_leastLacking_33 (lv_at hl 5 rfl) ?_
          refine lv_aload_n hx hb dX6_leastLacking_35 rfl (lv_at hl 1 rfl) ?_
          refine lv_iload_n hx hb dX6_leastLacking_36 rfl (lv_at hl 2 rfl) ?_
          obtain ⟨r9, S10, h11, h⟩ := g_bd h
          refine zx_ci (zx_runV (q := (RX6, TX6, 2)) (As := [.int v5, .ref (a 6), .int v2]) (rest := []) F hW (c_X6_lack l D a cs k v5 v2 hk S r9 S10 h11) Y_X6_lack wi_X6_lack ws_X6_lack wm_X6_54 ⟨rfl, rfl, Nat.le_of_ble_eq_true rfl, Nat.le_of_ble_eq_true rfl, Nat.le_of_ble_eq_true rfl, Nat.le_of_ble_eq_true rfl⟩ (zx_tab_l hk).1 (zx_tab_E hk) rfl rfl hl.1 rfl (Nat.le_of_ble_eq_true rfl) dX6_leastLacking_37) hS (fun H locs hW hS => ?_)
          refine lv_iload hx hb dX6_leastLacking_40 (lv_at hl 4 rfl) ?_
          refine lv_icmp_gt (tgt := 58) hx hb dX6_leastLacking_42 (by decide) (fun c12 => ?_) (fun c12 => ?_)
          · have h := g_t c12 h
            exact k_X6_leastLacking_L58 hk F hr ih  v2 v3 v4 v5 S10 h _ _ _ hW hS (lv_sub hl [0, 1, 2, 3, 4, 5] rfl)
          · have h := g_f c12 h
            exact k_X6_leastLacking_L45 hk F hr ih  v2 v5 S10 h _ _ _ hW hS (lv_sub hl [0, 1, 2, 5] rfl)
set_option maxHeartbeats 4000000 in
set_option maxRecDepth 100000 in
theorem c_X6_leastLacking (l : Launch) (D : va_G) (a : Nat → Nat) (cs : zx_C) (fu : Nat) (k : Nat) (p1 : Int32) (hk : zx_tab k = true) (S : St) (r9 : Int32) (S9 : St) (h : f_X6_leastLacking fu k p1 S = some (r9, S9)) : Met l yX6_leastLacking (Cond.code yX6_leastLacking cX6_leastLacking 6 (some (.int)) :: zx_tb) ({ frames := 2, cells := 0, slots := 0, locals := 43 }) (zx_P D a cs [.ref (a k), .ref (a 6), .int p1] S) (zx_Qi D a cs r9 S9) 0 0 (zx_A a) := by
  refine zx_met (own := RX6) (by decide) (Nat.le_of_ble_eq_true rfl) rfl ?_
  intro p e s m below meth c ls F hr hW hS hl
  have hl : lv_has ls 6 [(0, .ref (a k)), (1, .ref (a 6)), (2, .int p1)] := hl
  obtain ⟨⟨hx, hb, hml, hown, hts⟩, hlk, hK, hJ, hN⟩ := id F
  unfold f_X6_leastLacking at h
  refine lv_iconst (v := -1) hx hb dX6_leastLacking_0 (by decide) ?_
  refine lv_istore_n (lv' := [(3, .int (-1 : Int32)), (0, .ref (a k)), (1, .ref (a 6)), (2, .int p1)]) hx hb dX6_leastLacking_1 rfl hl (by decide) rfl (fun ls hl => ?_)
  refine lv_iconst (v := 0) hx hb dX6_leastLacking_2 (by decide) ?_
  refine lv_istore (lv' := [(4, .int (0 : Int32)), (3, .int (-1 : Int32)), (0, .ref (a k)), (1, .ref (a 6)), (2, .int p1)]) hx hb dX6_leastLacking_3 hl (by decide) rfl (fun ls hl => ?_)
  refine lv_iconst (v := 0) hx hb dX6_leastLacking_5 (by decide) ?_
  refine lv_istore (lv' := [(5, .int (0 : Int32)), (4, .int (0 : Int32)), (3, .int (-1 : Int32)), (0, .ref (a k)), (1, .ref (a 6)), (2, .int p1)]) hx hb dX6_leastLacking_6 hl (by decide) rfl (fun ls hl => ?_)
  exact k_X6_leastLacking_L8 hk F hr   fu p1 (-1 : Int32) (0 : Int32) (0 : Int32) S h _ _ _ hW hS (lv_sub hl [3, 4, 5, 2, 1, 0] rfl)

theorem Y_X9_isPlace : zx_Y yX9_isPlace cX9_isPlace 4 (some (.boolean)) 3 := ⟨wc_X9_isPlace, wn_X9, by decide, by decide, by decide +kernel⟩
set_option maxHeartbeats 4000000 in
set_option maxRecDepth 100000 in
theorem c_X9_isPlace (l : Launch) (D : va_G) (a : Nat → Nat) (cs : zx_C) (p0 : Int32) (p1 : Int32) (p2 : Int32)  (S : St) (r9 : Int32) (S9 : St) (h : f_X9_isPlace p0 p1 p2 S = some (r9, S9)) : Met l yX9_isPlace (Cond.code yX9_isPlace cX9_isPlace 4 (some (.boolean)) :: zx_tb) ({ frames := 1, cells := 0, slots := 0, locals := 21 }) (zx_P D a cs [.ref (a 43), .int p0, .int p1, .int p2] S) (zx_Qi D a cs r9 S9) 0 0 (zx_A a) := by
  refine zx_met (own := RX9) (by decide) (Nat.le_of_ble_eq_true rfl) rfl ?_
  intro p e s m below meth c ls F hr hW hS hl
  have hl : lv_has ls 4 [(0, .ref (a 43)), (1, .int p0), (2, .int p1), (3, .int p2)] := hl
  obtain ⟨⟨hx, hb, hml, hown, hts⟩, hlk, hK, hJ, hN⟩ := id F
  unfold f_X9_isPlace at h
  refine lv_aload_n hx hb dX9_isPlace_0 rfl (lv_at hl 0 rfl) ?_
  refine lv_iload_n hx hb dX9_isPlace_1 rfl (lv_at hl 1 rfl) ?_
  obtain ⟨r1, S2, h3, h⟩ := g_bd h
  refine zx_ci (zx_runV (q := (RX9, TX9, 35)) (As := [.int p0]) (rest := []) F hW (c_X9_isTable l D a cs p0  S r1 S2 h3) Y_X9_isTable wi_X9_isTable ws_X9_isTable wm_X9_84 ⟨rfl, rfl, Nat.le_of_ble_eq_true rfl, Nat.le_of_ble_eq_true rfl, Nat.le_of_ble_eq_true rfl, Nat.le_of_ble_eq_true rfl⟩ (by decide) zx_E43 rfl rfl hl.1 rfl (Nat.le_of_ble_eq_true rfl) dX9_isPlace_2) hS (fun H locs hW hS => ?_)
  refine lv_if_eq (tgt := 37) hx hb dX9_isPlace_5 (by decide) (fun c4 => ?_) (fun c4 => ?_)
  · have h := g_t c4 h
    refine lv_iconst (v := 0) hx hb dX9_isPlace_37 (by decide) ?_
    exact zx_rz F hr (by decide) hW hS h dX9_isPlace_38
  · have h := g_f c4 h
    refine lv_iload_n hx hb dX9_isPlace_8 rfl (lv_at hl 2 rfl) ?_
    refine lv_if_lt (tgt := 37) hx hb dX9_isPlace_9 (by decide) (fun c5 => ?_) (fun c5 => ?_)
    · have h := g_t c5 h
      refine lv_iconst (v := 0) hx hb dX9_isPlace_37 (by decide) ?_
      exact zx_rz F hr (by decide) hW hS h dX9_isPlace_38
    · have h := g_f c5 h
      refine lv_iload_n hx hb dX9_isPlace_12 rfl (lv_at hl 2 rfl) ?_
      refine lv_iconst (v := 3) hx hb dX9_isPlace_13 (by decide) ?_
      refine lv_icmp_ge (tgt := 37) hx hb dX9_isPlace_14 (by decide) (fun c6 => ?_) (fun c6 => ?_)
      · have h := g_t c6 h
        refine lv_iconst (v := 0) hx hb dX9_isPlace_37 (by decide) ?_
        exact zx_rz F hr (by decide) hW hS h dX9_isPlace_38
      · have h := g_f c6 h
        refine lv_iload_n hx hb dX9_isPlace_17 rfl (lv_at hl 3 rfl) ?_
        refine lv_if_lt (tgt := 37) hx hb dX9_isPlace_18 (by decide) (fun c7 => ?_) (fun c7 => ?_)
        · have h := g_t c7 h
          refine lv_iconst (v := 0) hx hb dX9_isPlace_37 (by decide) ?_
          exact zx_rz F hr (by decide) hW hS h dX9_isPlace_38
        · have h := g_f c7 h
          refine lv_iload_n hx hb dX9_isPlace_21 rfl (lv_at hl 3 rfl) ?_
          refine lv_iconst (v := 1) hx hb dX9_isPlace_22 (by decide) ?_
          refine lv_aload_n hx hb dX9_isPlace_23 rfl (lv_at hl 0 rfl) ?_
          refine zx_get (C := RX9) (T := TX9) (N := 35) F hW wu_X9 (by decide) zx_E43 rfl 4 (by decide) wf_X9_16 rfl dX9_isPlace_24 ?_
          refine lv_iload_n hx hb dX9_isPlace_27 rfl (lv_at hl 1 rfl) ?_
          obtain ⟨c8, h⟩ := g_no h
          refine zx_iald (n := 7) F hW (by decide) zx_E46 c8 dX9_isPlace_28 ?_
          refine lv_ishl hx hb dX9_isPlace_29 ?_
          refine lv_icmp_ge (tgt := 37) hx hb dX9_isPlace_30 (by decide) (fun c9 => ?_) (fun c9 => ?_)
          · have h := g_t c9 h
            refine lv_iconst (v := 0) hx hb dX9_isPlace_37 (by decide) ?_
            exact zx_rz F hr (by decide) hW hS h dX9_isPlace_38
          · have h := g_f c9 h
            refine lv_iconst (v := 1) hx hb dX9_isPlace_33 (by decide) ?_
            refine lv_goto (tgt := 38) hx hb dX9_isPlace_34 (by decide) ?_
            exact zx_rz F hr (by decide) hW hS h dX9_isPlace_38
theorem Y_X9_lack : zx_Y yX9_lack cX9_lack 4 (some (.int)) 3 := ⟨wc_X9_lack, wn_X9, by decide, by decide, by decide +kernel⟩
set_option maxHeartbeats 4000000 in
set_option maxRecDepth 100000 in
theorem c_X9_lack (l : Launch) (D : va_G) (a : Nat → Nat) (cs : zx_C) (p0 : Int32) (p1 : Int32) (p2 : Int32)  (S : St) (r9 : Int32) (S9 : St) (h : f_X9_lack p0 p1 p2 S = some (r9, S9)) : Met l yX9_lack (Cond.code yX9_lack cX9_lack 4 (some (.int)) :: zx_tb) ({ frames := 0, cells := 0, slots := 0, locals := 0 }) (zx_P D a cs [.ref (a 43), .int p0, .int p1, .int p2] S) (zx_Qi D a cs r9 S9) 0 0 (zx_A a) := by
  refine zx_met (own := RX9) (by decide) (Nat.le_of_ble_eq_true rfl) rfl ?_
  intro p e s m below meth c ls F hr hW hS hl
  have hl : lv_has ls 4 [(0, .ref (a 43)), (1, .int p0), (2, .int p1), (3, .int p2)] := hl
  obtain ⟨⟨hx, hb, hml, hown, hts⟩, hlk, hK, hJ, hN⟩ := id F
  unfold f_X9_lack at h
  refine lv_aload_n hx hb dX9_lack_0 rfl (lv_at hl 0 rfl) ?_
  refine zx_get (C := RX9) (T := TX9) (N := 35) F hW wu_X9 (by decide) zx_E43 rfl 11 (by decide) wf_X9_39 rfl dX9_lack_1 ?_
  refine lv_iload_n hx hb dX9_lack_4 rfl (lv_at hl 2 rfl) ?_
  obtain ⟨c1, h⟩ := g_no h
  refine zx_iald (n := 256) F hW (by decide) zx_E53 c1 dX9_lack_5 ?_
  refine lv_aload_n hx hb dX9_lack_6 rfl (lv_at hl 0 rfl) ?_
  refine zx_get (C := RX9) (T := TX9) (N := 35) F hW wu_X9 (by decide) zx_E43 rfl 4 (by decide) wf_X9_16 rfl dX9_lack_7 ?_
  refine lv_iload_n hx hb dX9_lack_10 rfl (lv_at hl 1 rfl) ?_
  obtain ⟨c2, h⟩ := g_no h
  refine zx_iald (n := 7) F hW (by decide) zx_E46 c2 dX9_lack_11 ?_
  refine lv_ishl hx hb dX9_lack_12 ?_
  refine lv_aload_n hx hb dX9_lack_13 rfl (lv_at hl 0 rfl) ?_
  refine zx_get (C := RX9) (T := TX9) (N := 35) F hW wu_X9 (by decide) zx_E43 rfl 5 (by decide) wf_X9_19 rfl dX9_lack_14 ?_
  refine lv_sipush (v := 256) hx hb dX9_lack_17 (by decide) ?_
  refine lv_iload_n hx hb dX9_lack_20 rfl (lv_at hl 1 rfl) ?_
  refine lv_imul hx hb dX9_lack_21 ?_
  refine lv_iload_n hx hb dX9_lack_22 rfl (lv_at hl 2 rfl) ?_
  refine lv_iadd hx hb dX9_lack_23 ?_
  obtain ⟨c3, h⟩ := g_no h
  refine zx_iald (n := 1792) F hW (by decide) zx_E47 c3 dX9_lack_24 ?_
  refine lv_iload_n hx hb dX9_lack_25 rfl (lv_at hl 3 rfl) ?_
  refine lv_imul hx hb dX9_lack_26 ?_
  refine lv_isub hx hb dX9_lack_27 ?_
  exact zx_ri F hr hW hS h dX9_lack_28
theorem Y_X9_learn : zx_Y yX9_learn cX9_learn 8 (some (.int)) 2 := ⟨wc_X9_learn, wn_X9, by decide, by decide, by decide +kernel⟩
set_option maxHeartbeats 4000000 in
set_option maxRecDepth 100000 in
theorem k_X9_learn_L385 {l : Launch} {D : va_G} {a : Nat → Nat} {cs : zx_C} {p : Program} {e : Env} {s : State} {m : MethodId} {below : List Frame} {meth : Method} {c : Code} {fu : Nat} {p0 : Int32} {p1 : Int32}  (F : zx_F D a cs p m c cX9_learn 8 s ([.ref (a 43), .int p0, .int p1] : List Value).toArray RX9 meth) (hr : meth.sig.returnType = (some (.int))) {r9 : Int32} {S9 : St} {K329 : Int32 → Int32 → Int32 → Int32 → Int32 → Int32 → St → Option (Int32 × St)} (hK329 : ∀ (v1 : Int32) (v3 : Int32) (v4 : Int32) (v5 : Int32) (v6 : Int32) (v7 : Int32) (S : St), K329 v1 v3 v4 v5 v6 v7 S = some (r9, S9) → ∀ (H : Heap) (locs : List Loc) (ls : Array Slot), zx_W D a cs S H → va_S (zx_A a) s.heap H locs → lv_has ls 8 [(0, .ref (a 43)), (1, .int v1), (3, .int v3), (4, .int v4), (5, .int v5), (6, .int v6), (7, .int v7)] → W p l e ({ frames := 1, cells := 0, slots := 0, locals := 23 }) s m ([.ref (a 43), .int p0, .int p1] : List Value).toArray below meth c H locs 0 0 (MQ below (zx_Qi D a cs r9 S9) ([.ref (a 43), .int p0, .int p1] : List Value).toArray s 0 0 (zx_A a)) (F0 m 329 ls []))  (v1 : Int32) (v3 : Int32) (v4 : Int32) (v5 : Int32) (v6 : Int32) (v7 : Int32) (S : St) (h : f_X9_learn_L385 fu p0 p1 K329  v1 v3 v4 v5 v6 v7 S = some (r9, S9)) (H : Heap) (locs : List Loc) (ls : Array Slot) (hW : zx_W D a cs S H) (hS : va_S (zx_A a) s.heap H locs) (hl : lv_has ls 8 [(0, .ref (a 43)), (1, .int v1), (3, .int v3), (4, .int v4), (5, .int v5), (6, .int v6), (7, .int v7)]) : W p l e ({ frames := 1, cells := 0, slots := 0, locals := 23 }) s m ([.ref (a 43), .int p0, .int p1] : List Value).toArray below meth c H locs 0 0 (MQ below (zx_Qi D a cs r9 S9) ([.ref (a 43), .int p0, .int p1] : List Value).toArray s 0 0 (zx_A a)) (F0 m 385 ls []) := by
  obtain ⟨⟨hx, hb, hml, hown, hts⟩, hlk, hK, hJ, hN⟩ := id F
  unfold f_X9_learn_L385 at h
  obtain ⟨x26, ex26, h⟩ := g_pin h
  refine lv_iinc (v := x26) (lv' := [(7, .int x26), (0, .ref (a 43)), (1, .int v1), (3, .int v3), (4, .int v4), (5, .int v5), (6, .int v6)]) hx hb dX9_learn_385 hl (k := 6) rfl (by rw [ex26]; rfl) (by decide) rfl (fun ls hl => ?_)
  refine lv_goto (tgt := 329) hx hb dX9_learn_388 (by decide) ?_
  exact hK329 v1 v3 v4 v5 v6 x26 S h _ _ _ hW hS (lv_sub hl [1, 2, 3, 4, 5, 6, 0] rfl)
set_option maxHeartbeats 4000000 in
set_option maxRecDepth 100000 in
theorem k_X9_learn_L381 {l : Launch} {D : va_G} {a : Nat → Nat} {cs : zx_C} {p : Program} {e : Env} {s : State} {m : MethodId} {below : List Frame} {meth : Method} {c : Code} {fu : Nat} {p0 : Int32} {p1 : Int32}  (F : zx_F D a cs p m c cX9_learn 8 s ([.ref (a 43), .int p0, .int p1] : List Value).toArray RX9 meth) (hr : meth.sig.returnType = (some (.int))) {r9 : Int32} {S9 : St} {K329 : Int32 → Int32 → Int32 → Int32 → Int32 → Int32 → St → Option (Int32 × St)} (hK329 : ∀ (v1 : Int32) (v3 : Int32) (v4 : Int32) (v5 : Int32) (v6 : Int32) (v7 : Int32) (S : St), K329 v1 v3 v4 v5 v6 v7 S = some (r9, S9) → ∀ (H : Heap) (locs : List Loc) (ls : Array Slot), zx_W D a cs S H → va_S (zx_A a) s.heap H locs → lv_has ls 8 [(0, .ref (a 43)), (1, .int v1), (3, .int v3), (4, .int v4), (5, .int v5), (6, .int v6), (7, .int v7)] → W p l e ({ frames := 1, cells := 0, slots := 0, locals := 23 }) s m ([.ref (a 43), .int p0, .int p1] : List Value).toArray below meth c H locs 0 0 (MQ below (zx_Qi D a cs r9 S9) ([.ref (a 43), .int p0, .int p1] : List Value).toArray s 0 0 (zx_A a)) (F0 m 329 ls []))  (v1 : Int32) (v3 : Int32) (v4 : Int32) (v5 : Int32) (v7 : Int32) (S : St) (h : f_X9_learn_L381 fu p0 p1 K329  v1 v3 v4 v5 v7 S = some (r9, S9)) (H : Heap) (locs : List Loc) (ls : Array Slot) (hW : zx_W D a cs S H) (hS : va_S (zx_A a) s.heap H locs) (hl : lv_has ls 8 [(0, .ref (a 43)), (1, .int v1), (3, .int v3), (4, .int v4), (5, .int v5), (7, .int v7)]) : W p l e ({ frames := 1, cells := 0, slots := 0, locals := 23 }) s m ([.ref (a 43), .int p0, .int p1] : List Value).toArray below meth c H locs 0 0 (MQ below (zx_Qi D a cs r9 S9) ([.ref (a 43), .int p0, .int p1] : List Value).toArray s 0 0 (zx_A a)) (F0 m 381 ls []) := by
  obtain ⟨⟨hx, hb, hml, hown, hts⟩, hlk, hK, hJ, hN⟩ := id F
  unfold f_X9_learn_L381 at h
  refine lv_iload hx hb dX9_learn_381 (lv_at hl 5 rfl) ?_
  refine lv_istore (lv' := [(6, .int v7), (0, .ref (a 43)), (1, .int v1), (3, .int v3), (4, .int v4), (5, .int v5), (7, .int v7)]) hx hb dX9_learn_383 hl (by decide) rfl (fun ls hl => ?_)
  exact k_X9_learn_L385  F hr hK329  v1 v3 v4 v5 v7 v7 S h _ _ _ hW hS (lv_sub hl [1, 2, 3, 4, 5, 0, 6] rfl)
set_option maxHeartbeats 4000000 in
set_option maxRecDepth 100000 in
theorem k_X9_learn_L329 {l : Launch} {D : va_G} {a : Nat → Nat} {cs : zx_C} {p : Program} {e : Env} {s : State} {m : MethodId} {below : List Frame} {meth : Method} {c : Code} {fu : Nat} {p0 : Int32} {p1 : Int32}  (F : zx_F D a cs p m c cX9_learn 8 s ([.ref (a 43), .int p0, .int p1] : List Value).toArray RX9 meth) (hr : meth.sig.returnType = (some (.int))) {r9 : Int32} {S9 : St} {K314 : Int32 → Int32 → Int32 → Int32 → St → Option (Int32 × St)} (hK314 : ∀ (v1 : Int32) (v3 : Int32) (v4 : Int32) (v5 : Int32) (S : St), K314 v1 v3 v4 v5 S = some (r9, S9) → ∀ (H : Heap) (locs : List Loc) (ls : Array Slot), zx_W D a cs S H → va_S (zx_A a) s.heap H locs → lv_has ls 8 [(0, .ref (a 43)), (1, .int v1), (3, .int v3), (4, .int v4), (5, .int v5)] → W p l e ({ frames := 1, cells := 0, slots := 0, locals := 23 }) s m ([.ref (a 43), .int p0, .int p1] : List Value).toArray below meth c H locs 0 0 (MQ below (zx_Qi D a cs r9 S9) ([.ref (a 43), .int p0, .int p1] : List Value).toArray s 0 0 (zx_A a)) (F0 m 314 ls []))  : ∀ (n : Nat) (v1 : Int32) (v3 : Int32) (v4 : Int32) (v5 : Int32) (v6 : Int32) (v7 : Int32) (S : St), f_X9_learn_L329 fu p0 p1 K314  n v1 v3 v4 v5 v6 v7 S = some (r9, S9) → ∀ (H : Heap) (locs : List Loc) (ls : Array Slot), zx_W D a cs S H → va_S (zx_A a) s.heap H locs → lv_has ls 8 [(0, .ref (a 43)), (1, .int v1), (3, .int v3), (4, .int v4), (5, .int v5), (6, .int v6), (7, .int v7)] → W p l e ({ frames := 1, cells := 0, slots := 0, locals := 23 }) s m ([.ref (a 43), .int p0, .int p1] : List Value).toArray below meth c H locs 0 0 (MQ below (zx_Qi D a cs r9 S9) ([.ref (a 43), .int p0, .int p1] : List Value).toArray s 0 0 (zx_A a)) (F0 m 329 ls []) := by
  obtain ⟨⟨hx, hb, hml, hown, hts⟩, hlk, hK, hJ, hN⟩ := id F
  intro n
  induction n with
  | zero =>
    intro v1 v3 v4 v5 v6 v7 S h
    exact absurd h (fun q => by cases q)
  | succ n ih =>
    intro v1 v3 v4 v5 v6 v7 S h H locs ls hW hS hl
    rw [f_X9_learn_L329_s] at h
    refine lv_iload hx hb dX9_learn_329 (lv_at hl 6 rfl) ?_
    refine lv_if_lt (tgt := 391) hx hb dX9_learn_331 (by decide) (fun c19 => ?_) (fun c19 => ?_)
    · have h := g_t c19 h
      refine lv_aload_n hx hb dX9_learn_391 rfl (lv_at hl 0 rfl) ?_
      refine zx_get (C := RX9) (T := TX9) (N := 35) F hW wu_X9 (by decide) zx_E43 rfl 5 (by decide) wf_X9_19 rfl dX9_learn_392 ?_
      refine lv_sipush (v := 256) hx hb dX9_learn_395 (by decide) ?_
      refine lv_iload_n hx hb dX9_learn_398 rfl (lv_at hl 1 rfl) ?_
      refine lv_imul hx hb dX9_learn_399 ?_
      refine lv_iload hx hb dX9_learn_400 (lv_at hl 5 rfl) ?_
      refine lv_iadd hx hb dX9_learn_402 ?_
      refine lv_dup2_11 hx hb dX9_learn_403 rfl rfl ?_
      obtain ⟨c20, h⟩ := g_no h
      refine zx_iald (n := 1792) F hW (by decide) zx_E47 c20 dX9_learn_404 ?_
      refine lv_iconst (v := 1) hx hb dX9_learn_405 (by decide) ?_
      refine lv_isub hx hb dX9_learn_406 ?_
      obtain ⟨c22, h⟩ := g_no h
      obtain ⟨S21, eS21, h⟩ := g_pin h
      refine zx_iast (n := 1792) F hW hS (by decide) (fun f => zx_E47) c22 dX9_learn_407 (fun H locs hW hS => ?_)
      have hW : zx_W D a cs S21 H := by rw [eS21]; exact hW
      obtain ⟨x23, ex23, h⟩ := g_pin h
      refine lv_iinc (v := x23) (lv' := [(5, .int x23), (0, .ref (a 43)), (1, .int v1), (3, .int v3), (4, .int v4), (6, .int v6), (7, .int v7)]) hx hb dX9_learn_408 hl (k := 4) rfl (by rw [ex23]; rfl) (by decide) rfl (fun ls hl => ?_)
      refine lv_goto (tgt := 314) hx hb dX9_learn_411 (by decide) ?_
      exact hK314 v1 v3 v4 x23 S21 h _ _ _ hW hS (lv_sub hl [1, 2, 3, 4, 0] rfl)
    · have h := g_f c19 h
      refine lv_aload_n hx hb dX9_learn_334 rfl (lv_at hl 0 rfl) ?_
      refine zx_get (C := RX9) (T := TX9) (N := 35) F hW wu_X9 (by decide) zx_E43 rfl 5 (by decide) wf_X9_19 rfl dX9_learn_335 ?_
      refine lv_sipush (v := 256) hx hb dX9_learn_338 (by decide) ?_
      refine lv_iload_n hx hb dX9_learn_341 rfl (lv_at hl 1 rfl) ?_
      refine lv_imul hx hb dX9_learn_342 ?_
      refine lv_iload hx hb dX9_learn_343 (lv_at hl 6 rfl) ?_
      refine lv_iadd hx hb dX9_learn_345 ?_
      obtain ⟨c24, h⟩ := g_no h
      refine zx_iald (n := 1792) F hW (by decide) zx_E47 c24 dX9_learn_346 ?_
      refine lv_iconst (v := 1) hx hb dX9_learn_347 (by decide) ?_
      refine lv_icmp_le (tgt := 385) hx hb dX9_learn_348 (by decide) (fun c25 => ?_) (fun c25 => ?_)
      · have h := g_t c25 h
        exact k_X9_learn_L385  F hr ih  v1 v3 v4 v5 v6 v7 S h _ _ _ hW hS (lv_sub hl [0, 1, 2, 3, 4, 5, 6] rfl)
      · have h := g_f c25 h
        refine lv_iload hx hb dX9_learn_351 (lv_at hl 5 rfl) ?_
        refine lv_if_lt (tgt := 381) hx hb dX9_learn_353 (by decide) (fun c27 => ?_) (fun c27 => ?_)
        · have h := g_t c27 h
          exact k_X9_learn_L381  F hr ih  v1 v3 v4 v5 v7 S h _ _ _ hW hS (lv_sub hl [0, 1, 2, 3, 4, 6] rfl)
        · have h := g_f c27 h
          refine lv_aload_n hx hb dX9_learn_356 rfl (lv_at hl 0 rfl) ?_
          refine lv_iload_n hx hb dX9_learn_357 rfl (lv_at hl 1 rfl) ?_
          refine lv_iload hx hb dX9_learn_358 (lv_at hl 6 rfl) ?_
          refine lv_aload_n hx hb dX9_learn_360 rfl (lv_at hl 0 rfl) ?_
          refine zx_get (C := RX9) (T := TX9) (N := 35) F hW wu_X9 (by decide) zx_E43 rfl 1 (by decide) wf_X9_70 rfl dX9_learn_361 ?_
          obtain ⟨r28, S29, h30, h⟩ := g_bd h
          refine zx_ci (zx_runV (q := (RX9, TX9, 35)) (As := [.int v1, .int v7, .int (S 43 1)]) (rest := []) F hW (c_X9_lack l D a cs v1 v7 (S 43 1)  S r28 S29 h30) Y_X9_lack wi_X9_lack ws_X9_lack wm_X9_76 ⟨rfl, rfl, Nat.le_of_ble_eq_true rfl, Nat.le_of_ble_eq_true rfl, Nat.le_of_ble_eq_true rfl, Nat.le_of_ble_eq_true rfl⟩ (by decide) zx_E43 rfl rfl hl.1 rfl (Nat.le_of_ble_eq_true rfl) dX9_learn_364) hS (fun H locs hW hS => ?_)
          refine lv_aload_n hx hb dX9_learn_367 rfl (lv_at hl 0 rfl) ?_
          refine lv_iload_n hx hb dX9_learn_368 rfl (lv_at hl 1 rfl) ?_
          refine lv_iload hx hb dX9_learn_369 (lv_at hl 5 rfl) ?_
          refine lv_aload_n hx hb dX9_learn_371 rfl (lv_at hl 0 rfl) ?_
          refine zx_get (C := RX9) (T := TX9) (N := 35) F hW wu_X9 (by decide) zx_E43 rfl 1 (by decide) wf_X9_70 rfl dX9_learn_372 ?_
          obtain ⟨r31, S32, h33, h⟩ := g_bd h
          refine zx_ci (zx_runV (q := (RX9, TX9, 35)) (As := [.int v1, .int v6, .int (S29 43 1)]) (rest := [.int r28]) F hW (c_X9_lack l D a cs v1 v6 (S29 43 1)  S29 r31 S32 h33) Y_X9_lack wi_X9_lack ws_X9_lack wm_X9_76 ⟨rfl, rfl, Nat.le_of_ble_eq_true rfl, Nat.le_of_ble_eq_true rfl, Nat.le_of_ble_eq_true rfl, Nat.le_of_ble_eq_true rfl⟩ (by decide) zx_E43 rfl rfl hl.1 rfl (Nat.le_of_ble_eq_true rfl) dX9_learn_375) hS (fun H locs hW hS => ?_)
          refine lv_icmp_ge (tgt := 385) hx hb dX9_learn_378 (by decide) (fun c34 => ?_) (fun c34 => ?_)
          · have h := g_t c34 h
            exact k_X9_learn_L385  F hr ih  v1 v3 v4 v5 v6 v7 S32 h _ _ _ hW hS (lv_sub hl [0, 1, 2, 3, 4, 5, 6] rfl)
          · have h := g_f c34 h
            exact k_X9_learn_L381  F hr ih  v1 v3 v4 v5 v7 S32 h _ _ _ hW hS (lv_sub hl [0, 1, 2, 3, 4, 6] rfl)
set_option maxHeartbeats 4000000 in
set_option maxRecDepth 100000 in
theorem k_X9_learn_L314 {l : Launch} {D : va_G} {a : Nat → Nat} {cs : zx_C} {p : Program} {e : Env} {s : State} {m : MethodId} {below : List Frame} {meth : Method} {c : Code} {fu : Nat} {p0 : Int32} {p1 : Int32}  (F : zx_F D a cs p m c cX9_learn 8 s ([.ref (a 43), .int p0, .int p1] : List Value).toArray RX9 meth) (hr : meth.sig.returnType = (some (.int))) {r9 : Int32} {S9 : St}    : ∀ (n : Nat) (v1 : Int32) (v3 : Int32) (v4 : Int32) (v5 : Int32) (S : St), f_X9_learn_L314 fu p0 p1   n v1 v3 v4 v5 S = some (r9, S9) → ∀ (H : Heap) (locs : List Loc) (ls : Array Slot), zx_W D a cs S H → va_S (zx_A a) s.heap H locs → lv_has ls 8 [(0, .ref (a 43)), (1, .int v1), (3, .int v3), (4, .int v4), (5, .int v5)] → W p l e ({ frames := 1, cells := 0, slots := 0, locals := 23 }) s m ([.ref (a 43), .int p0, .int p1] : List Value).toArray below meth c H locs 0 0 (MQ below (zx_Qi D a cs r9 S9) ([.ref (a 43), .int p0, .int p1] : List Value).toArray s 0 0 (zx_A a)) (F0 m 314 ls []) := by
  obtain ⟨⟨hx, hb, hml, hown, hts⟩, hlk, hK, hJ, hN⟩ := id F
  intro n
  induction n with
  | zero =>
    intro v1 v3 v4 v5 S h
    exact absurd h (fun q => by cases q)
  | succ n ih =>
    intro v1 v3 v4 v5 S h H locs ls hW hS hl
    rw [f_X9_learn_L314_s] at h
    refine lv_iload hx hb dX9_learn_314 (lv_at hl 4 rfl) ?_
    refine lv_iload hx hb dX9_learn_316 (lv_at hl 3 rfl) ?_
    refine lv_icmp_le (tgt := 414) hx hb dX9_learn_318 (by decide) (fun c15 => ?_) (fun c15 => ?_)
    · have h := g_t c15 h
      refine lv_aload_n hx hb dX9_learn_414 rfl (lv_at hl 0 rfl) ?_
      refine lv_iload_n hx hb dX9_learn_415 rfl (lv_at hl 1 rfl) ?_
      obtain ⟨r16, S17, h18, h⟩ := g_bd h
      refine zx_cv (zx_runV (q := (RX9, TX9, 35)) (As := [.int v1]) (rest := []) F hW (c_X9_begin l D a cs fu v1  S r16 S17 h18) Y_X9_begin wi_X9_begin ws_X9_begin wm_X9_80 ⟨rfl, rfl, Nat.le_of_ble_eq_true rfl, Nat.le_of_ble_eq_true rfl, Nat.le_of_ble_eq_true rfl, Nat.le_of_ble_eq_true rfl⟩ (by decide) zx_E43 rfl rfl hl.1 rfl (Nat.le_of_ble_eq_true rfl) dX9_learn_416) hS (fun H locs hW hS => ?_)
      refine lv_iload_n hx hb dX9_learn_419 rfl (lv_at hl 2 rfl) ?_
      exact zx_ri F hr hW hS h dX9_learn_420
    · have h := g_f c15 h
      refine lv_iconst (v := -1) hx hb dX9_learn_321 (by decide) ?_
      refine lv_istore (lv' := [(6, .int (-1 : Int32)), (0, .ref (a 43)), (1, .int v1), (3, .int v3), (4, .int v4), (5, .int v5)]) hx hb dX9_learn_322 hl (by decide) rfl (fun ls hl => ?_)
      refine lv_sipush (v := 255) hx hb dX9_learn_324 (by decide) ?_
      refine lv_istore (lv' := [(7, .int (255 : Int32)), (6, .int (-1 : Int32)), (0, .ref (a 43)), (1, .int v1), (3, .int v3), (4, .int v4), (5, .int v5)]) hx hb dX9_learn_327 hl (by decide) rfl (fun ls hl => ?_)
      exact k_X9_learn_L329  F hr ih  fu v1 v3 v4 v5 (-1 : Int32) (255 : Int32) S h _ _ _ hW hS (lv_sub hl [2, 3, 4, 5, 6, 1, 0] rfl)
set_option maxHeartbeats 4000000 in
set_option maxRecDepth 100000 in
theorem k_X9_learn_L285 {l : Launch} {D : va_G} {a : Nat → Nat} {cs : zx_C} {p : Program} {e : Env} {s : State} {m : MethodId} {below : List Frame} {meth : Method} {c : Code} {fu : Nat} {p0 : Int32} {p1 : Int32}  (F : zx_F D a cs p m c cX9_learn 8 s ([.ref (a 43), .int p0, .int p1] : List Value).toArray RX9 meth) (hr : meth.sig.returnType = (some (.int))) {r9 : Int32} {S9 : St} {K233 : Int32 → Int32 → Int32 → Int32 → Int32 → Int32 → St → Option (Int32 × St)} (hK233 : ∀ (v1 : Int32) (v3 : Int32) (v4 : Int32) (v5 : Int32) (v6 : Int32) (v7 : Int32) (S : St), K233 v1 v3 v4 v5 v6 v7 S = some (r9, S9) → ∀ (H : Heap) (locs : List Loc) (ls : Array Slot), zx_W D a cs S H → va_S (zx_A a) s.heap H locs → lv_has ls 8 [(0, .ref (a 43)), (1, .int v1), (3, .int v3), (4, .int v4), (5, .int v5), (6, .int v6), (7, .int v7)] → W p l e ({ frames := 1, cells := 0, slots := 0, locals := 23 }) s m ([.ref (a 43), .int p0, .int p1] : List Value).toArray below meth c H locs 0 0 (MQ below (zx_Qi D a cs r9 S9) ([.ref (a 43), .int p0, .int p1] : List Value).toArray s 0 0 (zx_A a)) (F0 m 233 ls []))  (v1 : Int32) (v3 : Int32) (v4 : Int32) (v5 : Int32) (v6 : Int32) (v7 : Int32) (S : St) (h : f_X9_learn_L285 fu p0 p1 K233  v1 v3 v4 v5 v6 v7 S = some (r9, S9)) (H : Heap) (locs : List Loc) (ls : Array Slot) (hW : zx_W D a cs S H) (hS : va_S (zx_A a) s.heap H locs) (hl : lv_has ls 8 [(0, .ref (a 43)), (1, .int v1), (3, .int v3), (4, .int v4), (5, .int v5), (6, .int v6), (7, .int v7)]) : W p l e ({ frames := 1, cells := 0, slots := 0, locals := 23 }) s m ([.ref (a 43), .int p0, .int p1] : List Value).toArray below meth c H locs 0 0 (MQ below (zx_Qi D a cs r9 S9) ([.ref (a 43), .int p0, .int p1] : List Value).toArray s 0 0 (zx_A a)) (F0 m 285 ls []) := by
  obtain ⟨⟨hx, hb, hml, hown, hts⟩, hlk, hK, hJ, hN⟩ := id F
  unfold f_X9_learn_L285 at h
  obtain ⟨x42, ex42, h⟩ := g_pin h
  refine lv_iinc (v := x42) (lv' := [(7, .int x42), (0, .ref (a 43)), (1, .int v1), (3, .int v3), (4, .int v4), (5, .int v5), (6, .int v6)]) hx hb dX9_learn_285 hl (k := 6) rfl (by rw [ex42]; rfl) (by decide) rfl (fun ls hl => ?_)
  refine lv_goto (tgt := 233) hx hb dX9_learn_288 (by decide) ?_
  exact hK233 v1 v3 v4 v5 v6 x42 S h _ _ _ hW hS (lv_sub hl [1, 2, 3, 4, 5, 6, 0] rfl)
set_option maxHeartbeats 4000000 in
set_option maxRecDepth 100000 in
theorem k_X9_learn_L281 {l : Launch} {D : va_G} {a : Nat → Nat} {cs : zx_C} {p : Program} {e : Env} {s : State} {m : MethodId} {below : List Frame} {meth : Method} {c : Code} {fu : Nat} {p0 : Int32} {p1 : Int32}  (F : zx_F D a cs p m c cX9_learn 8 s ([.ref (a 43), .int p0, .int p1] : List Value).toArray RX9 meth) (hr : meth.sig.returnType = (some (.int))) {r9 : Int32} {S9 : St} {K233 : Int32 → Int32 → Int32 → Int32 → Int32 → Int32 → St → Option (Int32 × St)} (hK233 : ∀ (v1 : Int32) (v3 : Int32) (v4 : Int32) (v5 : Int32) (v6 : Int32) (v7 : Int32) (S : St), K233 v1 v3 v4 v5 v6 v7 S = some (r9, S9) → ∀ (H : Heap) (locs : List Loc) (ls : Array Slot), zx_W D a cs S H → va_S (zx_A a) s.heap H locs → lv_has ls 8 [(0, .ref (a 43)), (1, .int v1), (3, .int v3), (4, .int v4), (5, .int v5), (6, .int v6), (7, .int v7)] → W p l e ({ frames := 1, cells := 0, slots := 0, locals := 23 }) s m ([.ref (a 43), .int p0, .int p1] : List Value).toArray below meth c H locs 0 0 (MQ below (zx_Qi D a cs r9 S9) ([.ref (a 43), .int p0, .int p1] : List Value).toArray s 0 0 (zx_A a)) (F0 m 233 ls []))  (v1 : Int32) (v3 : Int32) (v4 : Int32) (v5 : Int32) (v7 : Int32) (S : St) (h : f_X9_learn_L281 fu p0 p1 K233  v1 v3 v4 v5 v7 S = some (r9, S9)) (H : Heap) (locs : List Loc) (ls : Array Slot) (hW : zx_W D a cs S H) (hS : va_S (zx_A a) s.heap H locs) (hl : lv_has ls 8 [(0, .ref (a 43)), (1, .int v1), (3, .int v3), (4, .int v4), (5, .int v5), (7, .int v7)]) : W p l e ({ frames := 1, cells := 0, slots := 0, locals := 23 }) s m ([.ref (a 43), .int p0, .int p1] : List Value).toArray below meth c H locs 0 0 (MQ below (zx_Qi D a cs r9 S9) ([.ref (a 43), .int p0, .int p1] : List Value).toArray s 0 0 (zx_A a)) (F0 m 281 ls []) := by
  obtain ⟨⟨hx, hb, hml, hown, hts⟩, hlk, hK, hJ, hN⟩ := id F
  unfold f_X9_learn_L281 at h
  refine lv_iload hx hb dX9_learn_281 (lv_at hl 5 rfl) ?_
  refine lv_istore (lv' := [(6, .int v7), (0, .ref (a 43)), (1, .int v1), (3, .int v3), (4, .int v4), (5, .int v5), (7, .int v7)]) hx hb dX9_learn_283 hl (by decide) rfl (fun ls hl => ?_)
  exact k_X9_learn_L285  F hr hK233  v1 v3 v4 v5 v7 v7 S h _ _ _ hW hS (lv_sub hl [1, 2, 3, 4, 5, 0, 6] rfl)
set_option maxHeartbeats 4000000 in
set_option maxRecDepth 100000 in
theorem k_X9_learn_L233 {l : Launch} {D : va_G} {a : Nat → Nat} {cs : zx_C} {p : Program} {e : Env} {s : State} {m : MethodId} {below : List Frame} {meth : Method} {c : Code} {fu : Nat} {p0 : Int32} {p1 : Int32}  (F : zx_F D a cs p m c cX9_learn 8 s ([.ref (a 43), .int p0, .int p1] : List Value).toArray RX9 meth) (hr : meth.sig.returnType = (some (.int))) {r9 : Int32} {S9 : St} {K220 : Int32 → Int32 → Int32 → Int32 → St → Option (Int32 × St)} (hK220 : ∀ (v1 : Int32) (v3 : Int32) (v4 : Int32) (v5 : Int32) (S : St), K220 v1 v3 v4 v5 S = some (r9, S9) → ∀ (H : Heap) (locs : List Loc) (ls : Array Slot), zx_W D a cs S H → va_S (zx_A a) s.heap H locs → lv_has ls 8 [(0, .ref (a 43)), (1, .int v1), (3, .int v3), (4, .int v4), (5, .int v5)] → W p l e ({ frames := 1, cells := 0, slots := 0, locals := 23 }) s m ([.ref (a 43), .int p0, .int p1] : List Value).toArray below meth c H locs 0 0 (MQ below (zx_Qi D a cs r9 S9) ([.ref (a 43), .int p0, .int p1] : List Value).toArray s 0 0 (zx_A a)) (F0 m 220 ls []))  : ∀ (n : Nat) (v1 : Int32) (v3 : Int32) (v4 : Int32) (v5 : Int32) (v6 : Int32) (v7 : Int32) (S : St), f_X9_learn_L233 fu p0 p1 K220  n v1 v3 v4 v5 v6 v7 S = some (r9, S9) → ∀ (H : Heap) (locs : List Loc) (ls : Array Slot), zx_W D a cs S H → va_S (zx_A a) s.heap H locs → lv_has ls 8 [(0, .ref (a 43)), (1, .int v1), (3, .int v3), (4, .int v4), (5, .int v5), (6, .int v6), (7, .int v7)] → W p l e ({ frames := 1, cells := 0, slots := 0, locals := 23 }) s m ([.ref (a 43), .int p0, .int p1] : List Value).toArray below meth c H locs 0 0 (MQ below (zx_Qi D a cs r9 S9) ([.ref (a 43), .int p0, .int p1] : List Value).toArray s 0 0 (zx_A a)) (F0 m 233 ls []) := by
  obtain ⟨⟨hx, hb, hml, hown, hts⟩, hlk, hK, hJ, hN⟩ := id F
  intro n
  induction n with
  | zero =>
    intro v1 v3 v4 v5 v6 v7 S h
    exact absurd h (fun q => by cases q)
  | succ n ih =>
    intro v1 v3 v4 v5 v6 v7 S h H locs ls hW hS hl
    rw [f_X9_learn_L233_s] at h
    refine lv_iload hx hb dX9_learn_233 (lv_at hl 6 rfl) ?_
    refine lv_sipush (v := 256) hx hb dX9_learn_235 (by decide) ?_
    refine lv_icmp_ge (tgt := 291) hx hb dX9_learn_238 (by decide) (fun c35 => ?_) (fun c35 => ?_)
    · have h := g_t c35 h
      refine lv_aload_n hx hb dX9_learn_291 rfl (lv_at hl 0 rfl) ?_
      refine zx_get (C := RX9) (T := TX9) (N := 35) F hW wu_X9 (by decide) zx_E43 rfl 5 (by decide) wf_X9_19 rfl dX9_learn_292 ?_
      refine lv_sipush (v := 256) hx hb dX9_learn_295 (by decide) ?_
      refine lv_iload_n hx hb dX9_learn_298 rfl (lv_at hl 1 rfl) ?_
      refine lv_imul hx hb dX9_learn_299 ?_
      refine lv_iload hx hb dX9_learn_300 (lv_at hl 5 rfl) ?_
      refine lv_iadd hx hb dX9_learn_302 ?_
      refine lv_dup2_11 hx hb dX9_learn_303 rfl rfl ?_
      obtain ⟨c36, h⟩ := g_no h
      refine zx_iald (n := 1792) F hW (by decide) zx_E47 c36 dX9_learn_304 ?_
      refine lv_iconst (v := 1) hx hb dX9_learn_305 (by decide) ?_
      refine lv_iadd hx hb dX9_learn_306 ?_
      obtain ⟨c38, h⟩ := g_no h
      obtain ⟨S37, eS37, h⟩ := g_pin h
      refine zx_iast (n := 1792) F hW hS (by decide) (fun f => zx_E47) c38 dX9_learn_307 (fun H locs hW hS => ?_)
      have hW : zx_W D a cs S37 H := by rw [eS37]; exact hW
      obtain ⟨x39, ex39, h⟩ := g_pin h
      refine lv_iinc (v := x39) (lv' := [(5, .int x39), (0, .ref (a 43)), (1, .int v1), (3, .int v3), (4, .int v4), (6, .int v6), (7, .int v7)]) hx hb dX9_learn_308 hl (k := 4) rfl (by rw [ex39]; rfl) (by decide) rfl (fun ls hl => ?_)
      refine lv_goto (tgt := 220) hx hb dX9_learn_311 (by decide) ?_
      exact hK220 v1 v3 v4 x39 S37 h _ _ _ hW hS (lv_sub hl [1, 2, 3, 4, 0] rfl)
    · have h := g_f c35 h
      refine lv_aload_n hx hb dX9_learn_241 rfl (lv_at hl 0 rfl) ?_
      refine zx_get (C := RX9) (T := TX9) (N := 35) F hW wu_X9 (by decide) zx_E43 rfl 11 (by decide) wf_X9_39 rfl dX9_learn_242 ?_
      refine lv_iload hx hb dX9_learn_245 (lv_at hl 6 rfl) ?_
      obtain ⟨c40, h⟩ := g_no h
      refine zx_iald (n := 256) F hW (by decide) zx_E53 c40 dX9_learn_247 ?_
      refine lv_if_le (tgt := 285) hx hb dX9_learn_248 (by decide) (fun c41 => ?_) (fun c41 => ?_)
      · have h := g_t c41 h
        exact k_X9_learn_L285  F hr ih  v1 v3 v4 v5 v6 v7 S h _ _ _ hW hS (lv_sub hl [0, 1, 2, 3, 4, 5, 6] rfl)
      · have h := g_f c41 h
        refine lv_iload hx hb dX9_learn_251 (lv_at hl 5 rfl) ?_
        refine lv_if_lt (tgt := 281) hx hb dX9_learn_253 (by decide) (fun c43 => ?_) (fun c43 => ?_)
        · have h := g_t c43 h
          exact k_X9_learn_L281  F hr ih  v1 v3 v4 v5 v7 S h _ _ _ hW hS (lv_sub hl [0, 1, 2, 3, 4, 6] rfl)
        · have h := g_f c43 h
          refine lv_aload_n hx hb dX9_learn_256 rfl (lv_at hl 0 rfl) ?_
          refine lv_iload_n hx hb dX9_learn_257 rfl (lv_at hl 1 rfl) ?_
          refine lv_iload hx hb dX9_learn_258 (lv_at hl 6 rfl) ?_
          refine lv_aload_n hx hb dX9_learn_260 rfl (lv_at hl 0 rfl) ?_
          refine zx_get (C := RX9) (T := TX9) (N := 35) F hW wu_X9 (by decide) zx_E43 rfl 1 (by decide) wf_X9_70 rfl dX9_learn_261 ?_
          obtain ⟨r44, S45, h46, h⟩ := g_bd h
          refine zx_ci (zx_runV (q := (RX9, TX9, 35)) (As := [.int v1, .int v7, .int (S 43 1)]) (rest := []) F hW (c_X9_lack l D a cs v1 v7 (S 43 1)  S r44 S45 h46) Y_X9_lack wi_X9_lack ws_X9_lack wm_X9_76 ⟨rfl, rfl, Nat.le_of_ble_eq_true rfl, Nat.le_of_ble_eq_true rfl, Nat.le_of_ble_eq_true rfl, Nat.le_of_ble_eq_true rfl⟩ (by decide) zx_E43 rfl rfl hl.1 rfl (Nat.le_of_ble_eq_true rfl) dX9_learn_264) hS (fun H locs hW hS => ?_)
          refine lv_aload_n hx hb dX9_learn_267 rfl (lv_at hl 0 rfl) ?_
          refine lv_iload_n hx hb dX9_learn_268 rfl (lv_at hl 1 rfl) ?_
          refine lv_iload hx hb dX9_learn_269 (lv_at hl 5 rfl) ?_
          refine lv_aload_n hx hb dX9_learn_271 rfl (lv_at hl 0 rfl) ?_
          refine zx_get (C := RX9) (T := TX9) (N := 35) F hW wu_X9 (by decide) zx_E43 rfl 1 (by decide) wf_X9_70 rfl dX9_learn_272 ?_
          obtain ⟨r47, S48, h49, h⟩ := g_bd h
          refine zx_ci (zx_runV (q := (RX9, TX9, 35)) (As := [.int v1, .int v6, .int (S45 43 1)]) (rest := [.int r44]) F hW (c_X9_lack l D a cs v1 v6 (S45 43 1)  S45 r47 S48 h49) Y_X9_lack wi_X9_lack ws_X9_lack wm_X9_76 ⟨rfl, rfl, Nat.le_of_ble_eq_true rfl, Nat.le_of_ble_eq_true rfl, Nat.le_of_ble_eq_true rfl, Nat.le_of_ble_eq_true rfl⟩ (by decide) zx_E43 rfl rfl hl.1 rfl (Nat.le_of_ble_eq_true rfl) dX9_learn_275) hS (fun H locs hW hS => ?_)
          refine lv_icmp_le (tgt := 285) hx hb dX9_learn_278 (by decide) (fun c50 => ?_) (fun c50 => ?_)
          · have h := g_t c50 h
            exact k_X9_learn_L285  F hr ih  v1 v3 v4 v5 v6 v7 S48 h _ _ _ hW hS (lv_sub hl [0, 1, 2, 3, 4, 5, 6] rfl)
          · have h := g_f c50 h
            exact k_X9_learn_L281  F hr ih  v1 v3 v4 v5 v7 S48 h _ _ _ hW hS (lv_sub hl [0, 1, 2, 3, 4, 6] rfl)
set_option maxHeartbeats 4000000 in
set_option maxRecDepth 100000 in
theorem k_X9_learn_L220 {l : Launch} {D : va_G} {a : Nat → Nat} {cs : zx_C} {p : Program} {e : Env} {s : State} {m : MethodId} {below : List Frame} {meth : Method} {c : Code} {fu : Nat} {p0 : Int32} {p1 : Int32}  (F : zx_F D a cs p m c cX9_learn 8 s ([.ref (a 43), .int p0, .int p1] : List Value).toArray RX9 meth) (hr : meth.sig.returnType = (some (.int))) {r9 : Int32} {S9 : St}    : ∀ (n : Nat) (v1 : Int32) (v3 : Int32) (v4 : Int32) (v5 : Int32) (S : St), f_X9_learn_L220 fu p0 p1   n v1 v3 v4 v5 S = some (r9, S9) → ∀ (H : Heap) (locs : List Loc) (ls : Array Slot), zx_W D a cs S H → va_S (zx_A a) s.heap H locs → lv_has ls 8 [(0, .ref (a 43)), (1, .int v1), (3, .int v3), (4, .int v4), (5, .int v5)] → W p l e ({ frames := 1, cells := 0, slots := 0, locals := 23 }) s m ([.ref (a 43), .int p0, .int p1] : List Value).toArray below meth c H locs 0 0 (MQ below (zx_Qi D a cs r9 S9) ([.ref (a 43), .int p0, .int p1] : List Value).toArray s 0 0 (zx_A a)) (F0 m 220 ls []) := by
  obtain ⟨⟨hx, hb, hml, hown, hts⟩, hlk, hK, hJ, hN⟩ := id F
  intro n
  induction n with
  | zero =>
    intro v1 v3 v4 v5 S h
    exact absurd h (fun q => by cases q)
  | succ n ih =>
    intro v1 v3 v4 v5 S h H locs ls hW hS hl
    rw [f_X9_learn_L220_s] at h
    refine lv_iload hx hb dX9_learn_220 (lv_at hl 4 rfl) ?_
    refine lv_iload hx hb dX9_learn_222 (lv_at hl 3 rfl) ?_
    refine lv_icmp_ge (tgt := 314) hx hb dX9_learn_224 (by decide) (fun c14 => ?_) (fun c14 => ?_)
    · have h := g_t c14 h
      exact k_X9_learn_L314  F hr   fu v1 v3 v4 v5 S h _ _ _ hW hS (lv_sub hl [0, 1, 2, 3, 4] rfl)
    · have h := g_f c14 h
      refine lv_iconst (v := -1) hx hb dX9_learn_227 (by decide) ?_
      refine lv_istore (lv' := [(6, .int (-1 : Int32)), (0, .ref (a 43)), (1, .int v1), (3, .int v3), (4, .int v4), (5, .int v5)]) hx hb dX9_learn_228 hl (by decide) rfl (fun ls hl => ?_)
      refine lv_iconst (v := 0) hx hb dX9_learn_230 (by decide) ?_
      refine lv_istore (lv' := [(7, .int (0 : Int32)), (6, .int (-1 : Int32)), (0, .ref (a 43)), (1, .int v1), (3, .int v3), (4, .int v4), (5, .int v5)]) hx hb dX9_learn_231 hl (by decide) rfl (fun ls hl => ?_)
      exact k_X9_learn_L233  F hr ih  fu v1 v3 v4 v5 (-1 : Int32) (0 : Int32) S h _ _ _ hW hS (lv_sub hl [2, 3, 4, 5, 6, 1, 0] rfl)
set_option maxHeartbeats 4000000 in
set_option maxRecDepth 100000 in
theorem k_X9_learn_L192 {l : Launch} {D : va_G} {a : Nat → Nat} {cs : zx_C} {p : Program} {e : Env} {s : State} {m : MethodId} {below : List Frame} {meth : Method} {c : Code} {fu : Nat} {p0 : Int32} {p1 : Int32}  (F : zx_F D a cs p m c cX9_learn 8 s ([.ref (a 43), .int p0, .int p1] : List Value).toArray RX9 meth) (hr : meth.sig.returnType = (some (.int))) {r9 : Int32} {S9 : St} {K149 : Int32 → Int32 → Int32 → Int32 → Int32 → St → Option (Int32 × St)} (hK149 : ∀ (v1 : Int32) (v3 : Int32) (v4 : Int32) (v5 : Int32) (v6 : Int32) (S : St), K149 v1 v3 v4 v5 v6 S = some (r9, S9) → ∀ (H : Heap) (locs : List Loc) (ls : Array Slot), zx_W D a cs S H → va_S (zx_A a) s.heap H locs → lv_has ls 8 [(0, .ref (a 43)), (1, .int v1), (3, .int v3), (4, .int v4), (5, .int v5), (6, .int v6)] → W p l e ({ frames := 1, cells := 0, slots := 0, locals := 23 }) s m ([.ref (a 43), .int p0, .int p1] : List Value).toArray below meth c H locs 0 0 (MQ below (zx_Qi D a cs r9 S9) ([.ref (a 43), .int p0, .int p1] : List Value).toArray s 0 0 (zx_A a)) (F0 m 149 ls []))  (v1 : Int32) (v3 : Int32) (v4 : Int32) (v5 : Int32) (v6 : Int32) (v7 : Int32) (S : St) (h : f_X9_learn_L192 fu p0 p1 K149  v1 v3 v4 v5 v6 v7 S = some (r9, S9)) (H : Heap) (locs : List Loc) (ls : Array Slot) (hW : zx_W D a cs S H) (hS : va_S (zx_A a) s.heap H locs) (hl : lv_has ls 8 [(0, .ref (a 43)), (1, .int v1), (3, .int v3), (4, .int v4), (5, .int v5), (6, .int v6), (7, .int v7)]) : W p l e ({ frames := 1, cells := 0, slots := 0, locals := 23 }) s m ([.ref (a 43), .int p0, .int p1] : List Value).toArray below meth c H locs 0 0 (MQ below (zx_Qi D a cs r9 S9) ([.ref (a 43), .int p0, .int p1] : List Value).toArray s 0 0 (zx_A a)) (F0 m 192 ls []) := by
  obtain ⟨⟨hx, hb, hml, hown, hts⟩, hlk, hK, hJ, hN⟩ := id F
  unfold f_X9_learn_L192 at h
  refine lv_aload_n hx hb dX9_learn_192 rfl (lv_at hl 0 rfl) ?_
  refine zx_get (C := RX9) (T := TX9) (N := 35) F hW wu_X9 (by decide) zx_E43 rfl 5 (by decide) wf_X9_19 rfl dX9_learn_193 ?_
  refine lv_sipush (v := 256) hx hb dX9_learn_196 (by decide) ?_
  refine lv_iload_n hx hb dX9_learn_199 rfl (lv_at hl 1 rfl) ?_
  refine lv_imul hx hb dX9_learn_200 ?_
  refine lv_iload hx hb dX9_learn_201 (lv_at hl 5 rfl) ?_
  refine lv_iadd hx hb dX9_learn_203 ?_
  refine lv_iload hx hb dX9_learn_204 (lv_at hl 6 rfl) ?_
  obtain ⟨c57, h⟩ := g_no h
  obtain ⟨S56, eS56, h⟩ := g_pin h
  refine zx_iast (n := 1792) F hW hS (by decide) (fun f => zx_E47) c57 dX9_learn_206 (fun H locs hW hS => ?_)
  have hW : zx_W D a cs S56 H := by rw [eS56]; exact hW
  refine lv_iload hx hb dX9_learn_207 (lv_at hl 4 rfl) ?_
  refine lv_iload hx hb dX9_learn_209 (lv_at hl 6 rfl) ?_
  refine lv_iadd hx hb dX9_learn_211 ?_
  obtain ⟨x58, ex58, h⟩ := g_pin h
  refine zx_nm ex58 ?_
  refine lv_istore (lv' := [(5, .int x58), (0, .ref (a 43)), (1, .int v1), (3, .int v3), (4, .int v4), (6, .int v6), (7, .int v7)]) hx hb dX9_learn_212 hl (by decide) rfl (fun ls hl => ?_)
  obtain ⟨x59, ex59, h⟩ := g_pin h
  refine lv_iinc (v := x59) (lv' := [(6, .int x59), (5, .int x58), (0, .ref (a 43)), (1, .int v1), (3, .int v3), (4, .int v4), (7, .int v7)]) hx hb dX9_learn_214 hl (k := 5) rfl (by rw [ex59]; rfl) (by decide) rfl (fun ls hl => ?_)
  refine lv_goto (tgt := 149) hx hb dX9_learn_217 (by decide) ?_
  exact hK149 v1 v3 v4 x58 x59 S56 h _ _ _ hW hS (lv_sub hl [2, 3, 4, 5, 1, 0] rfl)
set_option maxHeartbeats 4000000 in
set_option maxRecDepth 100000 in
theorem k_X9_learn_L149 {l : Launch} {D : va_G} {a : Nat → Nat} {cs : zx_C} {p : Program} {e : Env} {s : State} {m : MethodId} {below : List Frame} {meth : Method} {c : Code} {fu : Nat} {p0 : Int32} {p1 : Int32}  (F : zx_F D a cs p m c cX9_learn 8 s ([.ref (a 43), .int p0, .int p1] : List Value).toArray RX9 meth) (hr : meth.sig.returnType = (some (.int))) {r9 : Int32} {S9 : St}    : ∀ (n : Nat) (v1 : Int32) (v3 : Int32) (v4 : Int32) (v5 : Int32) (v6 : Int32) (S : St), f_X9_learn_L149 fu p0 p1   n v1 v3 v4 v5 v6 S = some (r9, S9) → ∀ (H : Heap) (locs : List Loc) (ls : Array Slot), zx_W D a cs S H → va_S (zx_A a) s.heap H locs → lv_has ls 8 [(0, .ref (a 43)), (1, .int v1), (3, .int v3), (4, .int v4), (5, .int v5), (6, .int v6)] → W p l e ({ frames := 1, cells := 0, slots := 0, locals := 23 }) s m ([.ref (a 43), .int p0, .int p1] : List Value).toArray below meth c H locs 0 0 (MQ below (zx_Qi D a cs r9 S9) ([.ref (a 43), .int p0, .int p1] : List Value).toArray s 0 0 (zx_A a)) (F0 m 149 ls []) := by
  obtain ⟨⟨hx, hb, hml, hown, hts⟩, hlk, hK, hJ, hN⟩ := id F
  intro n
  induction n with
  | zero =>
    intro v1 v3 v4 v5 v6 S h
    exact absurd h (fun q => by cases q)
  | succ n ih =>
    intro v1 v3 v4 v5 v6 S h H locs ls hW hS hl
    rw [f_X9_learn_L149_s] at h
    refine lv_iload hx hb dX9_learn_149 (lv_at hl 5 rfl) ?_
    refine lv_sipush (v := 256) hx hb dX9_learn_151 (by decide) ?_
    refine lv_icmp_ge (tgt := 220) hx hb dX9_learn_154 (by decide) (fun c13 => ?_) (fun c13 => ?_)
    · have h := g_t c13 h
      exact k_X9_learn_L220  F hr   fu v1 v3 v4 v5 S h _ _ _ hW hS (lv_sub hl [0, 1, 2, 3, 4] rfl)
    · have h := g_f c13 h
      refine lv_aload_n hx hb dX9_learn_157 rfl (lv_at hl 0 rfl) ?_
      refine zx_get (C := RX9) (T := TX9) (N := 35) F hW wu_X9 (by decide) zx_E43 rfl 11 (by decide) wf_X9_39 rfl dX9_learn_158 ?_
      refine lv_iload hx hb dX9_learn_161 (lv_at hl 5 rfl) ?_
      obtain ⟨c51, h⟩ := g_no h
      refine zx_iald (n := 256) F hW (by decide) zx_E53 c51 dX9_learn_163 ?_
      refine lv_iload hx hb dX9_learn_164 (lv_at hl 3 rfl) ?_
      refine lv_imul hx hb dX9_learn_166 ?_
      refine lv_aload_n hx hb dX9_learn_167 rfl (lv_at hl 0 rfl) ?_
      refine zx_get (C := RX9) (T := TX9) (N := 35) F hW wu_X9 (by decide) zx_E43 rfl 1 (by decide) wf_X9_70 rfl dX9_learn_168 ?_
      obtain ⟨c52, h⟩ := g_no h
      refine lv_idiv hx hb dX9_learn_171 c52 ?_
      obtain ⟨x53, ex53, h⟩ := g_pin h
      refine zx_nm ex53 ?_
      refine lv_istore (lv' := [(7, .int x53), (0, .ref (a 43)), (1, .int v1), (3, .int v3), (4, .int v4), (5, .int v5), (6, .int v6)]) hx hb dX9_learn_172 hl (by decide) rfl (fun ls hl => ?_)
      refine lv_aload_n hx hb dX9_learn_174 rfl (lv_at hl 1 rfl) ?_
      refine zx_get (C := RX9) (T := TX9) (N := 35) F hW wu_X9 (by decide) zx_E43 rfl 11 (by decide) wf_X9_39 rfl dX9_learn_175 ?_
      refine lv_iload hx hb dX9_learn_178 (lv_at hl 6 rfl) ?_
      obtain ⟨c54, h⟩ := g_no h
      refine zx_iald (n := 256) F hW (by decide) zx_E53 c54 dX9_learn_180 ?_
      refine lv_if_le (tgt := 192) hx hb dX9_learn_181 (by decide) (fun c55 => ?_) (fun c55 => ?_)
      · have h := g_t c55 h
        exact k_X9_learn_L192  F hr ih  v1 v3 v4 v5 v6 x53 S h _ _ _ hW hS (lv_sub hl [1, 2, 3, 4, 5, 6, 0] rfl)
      · have h := g_f c55 h
        refine lv_iload hx hb dX9_learn_184 (lv_at hl 0 rfl) ?_
        refine lv_if_ne (tgt := 192) hx hb dX9_learn_186 (by decide) (fun c60 => ?_) (fun c60 => ?_)
        · have h := g_f c60 h
          exact k_X9_learn_L192  F hr ih  v1 v3 v4 v5 v6 x53 S h _ _ _ hW hS (lv_sub hl [1, 2, 3, 4, 5, 6, 0] rfl)
        · have h := g_t c60 h
          refine lv_iconst (v := 1) hx hb dX9_learn_189 (by decide) ?_
          refine lv_istore (lv' := [(7, .int (1 : Int32)), (0, .ref (a 43)), (1, .int v1), (3, .int v3), (4, .int v4), (5, .int v5), (6, .int v6)]) hx hb dX9_learn_190 hl (by decide) rfl (fun ls hl => ?_)
          exact k_X9_learn_L192  F hr ih  v1 v3 v4 v5 v6 (1 : Int32) S h _ _ _ hW hS (lv_sub hl [1, 2, 3, 4, 5, 6, 0] rfl)
set_option maxHeartbeats 4000000 in
set_option maxRecDepth 100000 in
theorem k_X9_learn_L114 {l : Launch} {D : va_G} {a : Nat → Nat} {cs : zx_C} {p : Program} {e : Env} {s : State} {m : MethodId} {below : List Frame} {meth : Method} {c : Code} {fu : Nat} {p0 : Int32} {p1 : Int32}  (F : zx_F D a cs p m c cX9_learn 8 s ([.ref (a 43), .int p0, .int p1] : List Value).toArray RX9 meth) (hr : meth.sig.returnType = (some (.int))) {r9 : Int32} {S9 : St} {K90 : Int32 → Int32 → Int32 → Int32 → St → Option (Int32 × St)} (hK90 : ∀ (v1 : Int32) (v2 : Int32) (v3 : Int32) (v4 : Int32) (S : St), K90 v1 v2 v3 v4 S = some (r9, S9) → ∀ (H : Heap) (locs : List Loc) (ls : Array Slot), zx_W D a cs S H → va_S (zx_A a) s.heap H locs → lv_has ls 8 [(0, .ref (a 43)), (1, .int v1), (2, .int v2), (3, .int v3), (4, .int v4)] → W p l e ({ frames := 1, cells := 0, slots := 0, locals := 23 }) s m ([.ref (a 43), .int p0, .int p1] : List Value).toArray below meth c H locs 0 0 (MQ below (zx_Qi D a cs r9 S9) ([.ref (a 43), .int p0, .int p1] : List Value).toArray s 0 0 (zx_A a)) (F0 m 90 ls []))  (v1 : Int32) (v2 : Int32) (v4 : Int32) (t0 : Int32) (t1 : Int32) (S : St) (h : f_X9_learn_L114 fu p0 p1 K90  v1 v2 v4 t0 t1 S = some (r9, S9)) (H : Heap) (locs : List Loc) (ls : Array Slot) (hW : zx_W D a cs S H) (hS : va_S (zx_A a) s.heap H locs) (hl : lv_has ls 8 [(0, .ref (a 43)), (1, .int v1), (2, .int v2), (4, .int v4)]) : W p l e ({ frames := 1, cells := 0, slots := 0, locals := 23 }) s m ([.ref (a 43), .int p0, .int p1] : List Value).toArray below meth c H locs 0 0 (MQ below (zx_Qi D a cs r9 S9) ([.ref (a 43), .int p0, .int p1] : List Value).toArray s 0 0 (zx_A a)) (F0 m 114 ls [.int t0, .int t1]) := by
  obtain ⟨⟨hx, hb, hml, hown, hts⟩, hlk, hK, hJ, hN⟩ := id F
  unfold f_X9_learn_L114 at h
  refine lv_iadd hx hb dX9_learn_114 ?_
  obtain ⟨x63, ex63, h⟩ := g_pin h
  refine zx_nm ex63 ?_
  refine lv_istore_n (lv' := [(3, .int x63), (0, .ref (a 43)), (1, .int v1), (2, .int v2), (4, .int v4)]) hx hb dX9_learn_115 rfl hl (by decide) rfl (fun ls hl => ?_)
  obtain ⟨x64, ex64, h⟩ := g_pin h
  refine lv_iinc (v := x64) (lv' := [(4, .int x64), (3, .int x63), (0, .ref (a 43)), (1, .int v1), (2, .int v2)]) hx hb dX9_learn_116 hl (k := 4) rfl (by rw [ex64]; rfl) (by decide) rfl (fun ls hl => ?_)
  refine lv_goto (tgt := 90) hx hb dX9_learn_119 (by decide) ?_
  exact hK90 v1 v2 x63 x64 S h _ _ _ hW hS (lv_sub hl [2, 3, 4, 1, 0] rfl)
set_option maxHeartbeats 4000000 in
set_option maxRecDepth 100000 in
theorem k_X9_learn_L90 {l : Launch} {D : va_G} {a : Nat → Nat} {cs : zx_C} {p : Program} {e : Env} {s : State} {m : MethodId} {below : List Frame} {meth : Method} {c : Code} {fu : Nat} {p0 : Int32} {p1 : Int32}  (F : zx_F D a cs p m c cX9_learn 8 s ([.ref (a 43), .int p0, .int p1] : List Value).toArray RX9 meth) (hr : meth.sig.returnType = (some (.int))) {r9 : Int32} {S9 : St}    : ∀ (n : Nat) (v1 : Int32) (v2 : Int32) (v3 : Int32) (v4 : Int32) (S : St), f_X9_learn_L90 fu p0 p1   n v1 v2 v3 v4 S = some (r9, S9) → ∀ (H : Heap) (locs : List Loc) (ls : Array Slot), zx_W D a cs S H → va_S (zx_A a) s.heap H locs → lv_has ls 8 [(0, .ref (a 43)), (1, .int v1), (2, .int v2), (3, .int v3), (4, .int v4)] → W p l e ({ frames := 1, cells := 0, slots := 0, locals := 23 }) s m ([.ref (a 43), .int p0, .int p1] : List Value).toArray below meth c H locs 0 0 (MQ below (zx_Qi D a cs r9 S9) ([.ref (a 43), .int p0, .int p1] : List Value).toArray s 0 0 (zx_A a)) (F0 m 90 ls []) := by
  obtain ⟨⟨hx, hb, hml, hown, hts⟩, hlk, hK, hJ, hN⟩ := id F
  intro n
  induction n with
  | zero =>
    intro v1 v2 v3 v4 S h
    exact absurd h (fun q => by cases q)
  | succ n ih =>
    intro v1 v2 v3 v4 S h H locs ls hW hS hl
    rw [f_X9_learn_L90_s] at h
    refine lv_iload hx hb dX9_learn_90 (lv_at hl 4 rfl) ?_
    refine lv_sipush (v := 256) hx hb dX9_learn_92 (by decide) ?_
    refine lv_icmp_ge (tgt := 122) hx hb dX9_learn_95 (by decide) (fun c8 => ?_) (fun c8 => ?_)
    · have h := g_t c8 h
      refine lv_iconst (v := 1) hx hb dX9_learn_122 (by decide) ?_
      refine lv_iload_n hx hb dX9_learn_123 rfl (lv_at hl 2 rfl) ?_
      refine lv_ishl hx hb dX9_learn_124 ?_
      obtain ⟨x9, ex9, h⟩ := g_pin h
      refine zx_nm ex9 ?_
      refine lv_istore (lv' := [(4, .int x9), (0, .ref (a 43)), (1, .int v1), (2, .int v2), (3, .int v3)]) hx hb dX9_learn_125 hl (by decide) rfl (fun ls hl => ?_)
      refine lv_iload_n hx hb dX9_learn_127 rfl (lv_at hl 4 rfl) ?_
      refine lv_iload hx hb dX9_learn_128 (lv_at hl 0 rfl) ?_
      refine lv_icmp_le (tgt := 136) hx hb dX9_learn_130 (by decide) (fun c10 => ?_) (fun c10 => ?_)
      · have h := g_t c10 h
        refine lv_aload_n hx hb dX9_learn_136 rfl (lv_at hl 1 rfl) ?_
        refine zx_get (C := RX9) (T := TX9) (N := 35) F hW wu_X9 (by decide) zx_E43 rfl 4 (by decide) wf_X9_16 rfl dX9_learn_137 ?_
        refine lv_iload_n hx hb dX9_learn_140 rfl (lv_at hl 2 rfl) ?_
        refine lv_iload_n hx hb dX9_learn_141 rfl (lv_at hl 3 rfl) ?_
        obtain ⟨c12, h⟩ := g_no h
        obtain ⟨S11, eS11, h⟩ := g_pin h
        refine zx_iast (n := 7) F hW hS (by decide) (fun f => zx_E46) c12 dX9_learn_142 (fun H locs hW hS => ?_)
        have hW : zx_W D a cs S11 H := by rw [eS11]; exact hW
        refine lv_iconst (v := 0) hx hb dX9_learn_143 (by decide) ?_
        refine lv_istore (lv' := [(5, .int (0 : Int32)), (4, .int x9), (0, .ref (a 43)), (1, .int v1), (2, .int v2), (3, .int v3)]) hx hb dX9_learn_144 hl (by decide) rfl (fun ls hl => ?_)
        refine lv_iconst (v := 0) hx hb dX9_learn_146 (by decide) ?_
        refine lv_istore (lv' := [(6, .int (0 : Int32)), (5, .int (0 : Int32)), (4, .int x9), (0, .ref (a 43)), (1, .int v1), (2, .int v2), (3, .int v3)]) hx hb dX9_learn_147 hl (by decide) rfl (fun ls hl => ?_)
        exact k_X9_learn_L149  F hr   fu v1 v3 x9 (0 : Int32) (0 : Int32) S11 h _ _ _ hW hS (lv_sub hl [3, 4, 6, 2, 1, 0] rfl)
      · have h := g_f c10 h
        refine lv_bipush (v := -3) hx hb dX9_learn_133 (by decide) ?_
        exact zx_ri F hr hW hS h dX9_learn_135
    · have h := g_f c8 h
      refine lv_iload_n hx hb dX9_learn_98 rfl (lv_at hl 3 rfl) ?_
      refine lv_aload_n hx hb dX9_learn_99 rfl (lv_at hl 0 rfl) ?_
      refine zx_get (C := RX9) (T := TX9) (N := 35) F hW wu_X9 (by decide) zx_E43 rfl 11 (by decide) wf_X9_39 rfl dX9_learn_100 ?_
      refine lv_iload hx hb dX9_learn_103 (lv_at hl 4 rfl) ?_
      obtain ⟨c61, h⟩ := g_no h
      refine zx_iald (n := 256) F hW (by decide) zx_E53 c61 dX9_learn_105 ?_
      refine lv_if_le (tgt := 113) hx hb dX9_learn_106 (by decide) (fun c62 => ?_) (fun c62 => ?_)
      · have h := g_t c62 h
        refine lv_iconst (v := 0) hx hb dX9_learn_113 (by decide) ?_
        exact k_X9_learn_L114  F hr ih  v1 v2 v4 (0 : Int32) v3 S h _ _ _ hW hS (lv_sub hl [0, 1, 2, 4] rfl)
      · have h := g_f c62 h
        refine lv_iconst (v := 1) hx hb dX9_learn_109 (by decide) ?_
        refine lv_goto (tgt := 114) hx hb dX9_learn_110 (by decide) ?_
        exact k_X9_learn_L114  F hr ih  v1 v2 v4 (1 : Int32) v3 S h _ _ _ hW hS (lv_sub hl [0, 1, 2, 4] rfl)
set_option maxHeartbeats 4000000 in
set_option maxRecDepth 100000 in
theorem k_X9_learn_L56 {l : Launch} {D : va_G} {a : Nat → Nat} {cs : zx_C} {p : Program} {e : Env} {s : State} {m : MethodId} {below : List Frame} {meth : Method} {c : Code} {fu : Nat} {p0 : Int32} {p1 : Int32}  (F : zx_F D a cs p m c cX9_learn 8 s ([.ref (a 43), .int p0, .int p1] : List Value).toArray RX9 meth) (hr : meth.sig.returnType = (some (.int))) {r9 : Int32} {S9 : St}    : ∀ (n : Nat) (v1 : Int32) (v2 : Int32) (v3 : Int32) (S : St), f_X9_learn_L56 fu p0 p1   n v1 v2 v3 S = some (r9, S9) → ∀ (H : Heap) (locs : List Loc) (ls : Array Slot), zx_W D a cs S H → va_S (zx_A a) s.heap H locs → lv_has ls 8 [(0, .ref (a 43)), (1, .int v1), (2, .int v2), (3, .int v3)] → W p l e ({ frames := 1, cells := 0, slots := 0, locals := 23 }) s m ([.ref (a 43), .int p0, .int p1] : List Value).toArray below meth c H locs 0 0 (MQ below (zx_Qi D a cs r9 S9) ([.ref (a 43), .int p0, .int p1] : List Value).toArray s 0 0 (zx_A a)) (F0 m 56 ls []) := by
  obtain ⟨⟨hx, hb, hml, hown, hts⟩, hlk, hK, hJ, hN⟩ := id F
  intro n
  induction n with
  | zero =>
    intro v1 v2 v3 S h
    exact absurd h (fun q => by cases q)
  | succ n ih =>
    intro v1 v2 v3 S h H locs ls hW hS hl
    rw [f_X9_learn_L56_s] at h
    refine lv_iload_n hx hb dX9_learn_56 rfl (lv_at hl 3 rfl) ?_
    refine lv_aload_n hx hb dX9_learn_57 rfl (lv_at hl 0 rfl) ?_
    refine zx_get (C := RX9) (T := TX9) (N := 35) F hW wu_X9 (by decide) zx_E43 rfl 1 (by decide) wf_X9_70 rfl dX9_learn_58 ?_
    refine lv_icmp_ge (tgt := 85) hx hb dX9_learn_61 (by decide) (fun c7 => ?_) (fun c7 => ?_)
    · have h := g_t c7 h
      refine lv_iconst (v := 0) hx hb dX9_learn_85 (by decide) ?_
      refine lv_istore_n (lv' := [(3, .int (0 : Int32)), (0, .ref (a 43)), (1, .int v1), (2, .int v2)]) hx hb dX9_learn_86 rfl hl (by decide) rfl (fun ls hl => ?_)
      refine lv_iconst (v := 0) hx hb dX9_learn_87 (by decide) ?_
      refine lv_istore (lv' := [(4, .int (0 : Int32)), (3, .int (0 : Int32)), (0, .ref (a 43)), (1, .int v1), (2, .int v2)]) hx hb dX9_learn_88 hl (by decide) rfl (fun ls hl => ?_)
      exact k_X9_learn_L90  F hr   fu v1 v2 (0 : Int32) (0 : Int32) S h _ _ _ hW hS (lv_sub hl [2, 3, 4, 1, 0] rfl)
    · have h := g_f c7 h
      refine lv_aload_n hx hb dX9_learn_64 rfl (lv_at hl 0 rfl) ?_
      refine zx_get (C := RX9) (T := TX9) (N := 35) F hW wu_X9 (by decide) zx_E43 rfl 11 (by decide) wf_X9_39 rfl dX9_learn_65 ?_
      refine lv_aload_n hx hb dX9_learn_68 rfl (lv_at hl 0 rfl) ?_
      refine zx_get (C := RX9) (T := TX9) (N := 35) F hW wu_X9 (by decide) zx_E43 rfl 0 (by decide) wf_X9_7 rfl dX9_learn_69 ?_
      refine lv_iload_n hx hb dX9_learn_72 rfl (lv_at hl 3 rfl) ?_
      obtain ⟨c65, h⟩ := g_no h
      refine zx_iald (n := 4000) F hW (by decide) zx_E44 c65 dX9_learn_73 ?_
      refine lv_dup2_11 hx hb dX9_learn_74 rfl rfl ?_
      obtain ⟨c66, h⟩ := g_no h
      refine zx_iald (n := 256) F hW (by decide) zx_E53 c66 dX9_learn_75 ?_
      refine lv_iconst (v := 1) hx hb dX9_learn_76 (by decide) ?_
      refine lv_iadd hx hb dX9_learn_77 ?_
      obtain ⟨c68, h⟩ := g_no h
      obtain ⟨S67, eS67, h⟩ := g_pin h
      refine zx_iast (n := 256) F hW hS (by decide) (fun f => zx_E53) c68 dX9_learn_78 (fun H locs hW hS => ?_)
      have hW : zx_W D a cs S67 H := by rw [eS67]; exact hW
      obtain ⟨x69, ex69, h⟩ := g_pin h
      refine lv_iinc (v := x69) (lv' := [(3, .int x69), (0, .ref (a 43)), (1, .int v1), (2, .int v2)]) hx hb dX9_learn_79 hl (k := 3) rfl (by rw [ex69]; rfl) (by decide) rfl (fun ls hl => ?_)
      refine lv_goto (tgt := 56) hx hb dX9_learn_82 (by decide) ?_
      exact ih v1 v2 x69 S67 h _ _ _ hW hS (lv_sub hl [1, 2, 3, 0] rfl)
set_option maxHeartbeats 4000000 in
set_option maxRecDepth 100000 in
theorem k_X9_learn_L34 {l : Launch} {D : va_G} {a : Nat → Nat} {cs : zx_C} {p : Program} {e : Env} {s : State} {m : MethodId} {below : List Frame} {meth : Method} {c : Code} {fu : Nat} {p0 : Int32} {p1 : Int32}  (F : zx_F D a cs p m c cX9_learn 8 s ([.ref (a 43), .int p0, .int p1] : List Value).toArray RX9 meth) (hr : meth.sig.returnType = (some (.int))) {r9 : Int32} {S9 : St}    : ∀ (n : Nat) (v1 : Int32) (v2 : Int32) (v3 : Int32) (S : St), f_X9_learn_L34 fu p0 p1   n v1 v2 v3 S = some (r9, S9) → ∀ (H : Heap) (locs : List Loc) (ls : Array Slot), zx_W D a cs S H → va_S (zx_A a) s.heap H locs → lv_has ls 8 [(0, .ref (a 43)), (1, .int v1), (2, .int v2), (3, .int v3)] → W p l e ({ frames := 1, cells := 0, slots := 0, locals := 23 }) s m ([.ref (a 43), .int p0, .int p1] : List Value).toArray below meth c H locs 0 0 (MQ below (zx_Qi D a cs r9 S9) ([.ref (a 43), .int p0, .int p1] : List Value).toArray s 0 0 (zx_A a)) (F0 m 34 ls []) := by
  obtain ⟨⟨hx, hb, hml, hown, hts⟩, hlk, hK, hJ, hN⟩ := id F
  intro n
  induction n with
  | zero =>
    intro v1 v2 v3 S h
    exact absurd h (fun q => by cases q)
  | succ n ih =>
    intro v1 v2 v3 S h H locs ls hW hS hl
    rw [f_X9_learn_L34_s] at h
    refine lv_iload_n hx hb dX9_learn_34 rfl (lv_at hl 3 rfl) ?_
    refine lv_sipush (v := 256) hx hb dX9_learn_35 (by decide) ?_
    refine lv_icmp_ge (tgt := 54) hx hb dX9_learn_38 (by decide) (fun c6 => ?_) (fun c6 => ?_)
    · have h := g_t c6 h
      refine lv_iconst (v := 0) hx hb dX9_learn_54 (by decide) ?_
      refine lv_istore_n (lv' := [(3, .int (0 : Int32)), (0, .ref (a 43)), (1, .int v1), (2, .int v2)]) hx hb dX9_learn_55 rfl hl (by decide) rfl (fun ls hl => ?_)
      exact k_X9_learn_L56  F hr   fu v1 v2 (0 : Int32) S h _ _ _ hW hS (lv_sub hl [1, 2, 3, 0] rfl)
    · have h := g_f c6 h
      refine lv_aload_n hx hb dX9_learn_41 rfl (lv_at hl 0 rfl) ?_
      refine zx_get (C := RX9) (T := TX9) (N := 35) F hW wu_X9 (by decide) zx_E43 rfl 11 (by decide) wf_X9_39 rfl dX9_learn_42 ?_
      refine lv_iload_n hx hb dX9_learn_45 rfl (lv_at hl 3 rfl) ?_
      refine lv_iconst (v := 0) hx hb dX9_learn_46 (by decide) ?_
      obtain ⟨c71, h⟩ := g_no h
      obtain ⟨S70, eS70, h⟩ := g_pin h
      refine zx_iast (n := 256) F hW hS (by decide) (fun f => zx_E53) c71 dX9_learn_47 (fun H locs hW hS => ?_)
      have hW : zx_W D a cs S70 H := by rw [eS70]; exact hW
      obtain ⟨x72, ex72, h⟩ := g_pin h
      refine lv_iinc (v := x72) (lv' := [(3, .int x72), (0, .ref (a 43)), (1, .int v1), (2, .int v2)]) hx hb dX9_learn_48 hl (k := 3) rfl (by rw [ex72]; rfl) (by decide) rfl (fun ls hl => ?_)
      refine lv_goto (tgt := 34) hx hb dX9_learn_51 (by decide) ?_
      exact ih v1 v2 x72 S70 h _ _ _ hW hS (lv_sub hl [1, 2, 3, 0] rfl)
set_option maxHeartbeats 4000000 in
set_option maxRecDepth 100000 in
theorem c_X9_learn (l : Launch) (D : va_G) (a : Nat → Nat) (cs : zx_C) (fu : Nat) (p0 : Int32) (p1 : Int32)  (S : St) (r9 : Int32) (S9 : St) (h : f_X9_learn fu p0 p1 S = some (r9, S9)) : Met l yX9_learn (Cond.code yX9_learn cX9_learn 8 (some (.int)) :: zx_tb) ({ frames := 1, cells := 0, slots := 0, locals := 23 }) (zx_P D a cs [.ref (a 43), .int p0, .int p1] S) (zx_Qi D a cs r9 S9) 0 0 (zx_A a) := by
  refine zx_met (own := RX9) (by decide) (Nat.le_of_ble_eq_true rfl) rfl ?_
  intro p e s m below meth c ls F hr hW hS hl
  have hl : lv_has ls 8 [(0, .ref (a 43)), (1, .int p0), (2, .int p1)] := hl
  obtain ⟨⟨hx, hb, hml, hown, hts⟩, hlk, hK, hJ, hN⟩ := id F
  unfold f_X9_learn at h
  refine lv_iload_n hx hb dX9_learn_0 rfl (lv_at hl 1 rfl) ?_
  refine lv_if_lt (tgt := 20) hx hb dX9_learn_1 (by decide) (fun c1 => ?_) (fun c1 => ?_)
  · have h := g_t c1 h
    refine lv_iconst (v := -1) hx hb dX9_learn_20 (by decide) ?_
    exact zx_ri F hr hW hS h dX9_learn_21
  · have h := g_f c1 h
    refine lv_iload_n hx hb dX9_learn_4 rfl (lv_at hl 1 rfl) ?_
    refine lv_iconst (v := 5) hx hb dX9_learn_5 (by decide) ?_
    refine lv_icmp_gt (tgt := 20) hx hb dX9_learn_6 (by decide) (fun c2 => ?_) (fun c2 => ?_)
    · have h := g_t c2 h
      refine lv_iconst (v := -1) hx hb dX9_learn_20 (by decide) ?_
      exact zx_ri F hr hW hS h dX9_learn_21
    · have h := g_f c2 h
      refine lv_iload_n hx hb dX9_learn_9 rfl (lv_at hl 2 rfl) ?_
      refine lv_iconst (v := 1) hx hb dX9_learn_10 (by decide) ?_
      refine lv_icmp_lt (tgt := 20) hx hb dX9_learn_11 (by decide) (fun c3 => ?_) (fun c3 => ?_)
      · have h := g_t c3 h
        refine lv_iconst (v := -1) hx hb dX9_learn_20 (by decide) ?_
        exact zx_ri F hr hW hS h dX9_learn_21
      · have h := g_f c3 h
        refine lv_iload_n hx hb dX9_learn_14 rfl (lv_at hl 2 rfl) ?_
        refine lv_bipush (v := 12) hx hb dX9_learn_15 (by decide) ?_
        refine lv_icmp_le (tgt := 22) hx hb dX9_learn_17 (by decide) (fun c4 => ?_) (fun c4 => ?_)
        · have h := g_t c4 h
          refine lv_aload_n hx hb dX9_learn_22 rfl (lv_at hl 0 rfl) ?_
          refine zx_get (C := RX9) (T := TX9) (N := 35) F hW wu_X9 (by decide) zx_E43 rfl 1 (by decide) wf_X9_70 rfl dX9_learn_23 ?_
          refine lv_if_ne (tgt := 32) hx hb dX9_learn_26 (by decide) (fun c5 => ?_) (fun c5 => ?_)
          · have h := g_f c5 h
            refine lv_iconst (v := 0) hx hb dX9_learn_32 (by decide) ?_
            refine lv_istore_n (lv' := [(3, .int (0 : Int32)), (0, .ref (a 43)), (1, .int p0), (2, .int p1)]) hx hb dX9_learn_33 rfl hl (by decide) rfl (fun ls hl => ?_)
            exact k_X9_learn_L34  F hr   fu p0 p1 (0 : Int32) S h _ _ _ hW hS (lv_sub hl [1, 2, 3, 0] rfl)
          · have h := g_t c5 h
            refine lv_bipush (v := -2) hx hb dX9_learn_29 (by decide) ?_
            exact zx_ri F hr hW hS h dX9_learn_31
        · have h := g_f c4 h
          refine lv_iconst (v := -1) hx hb dX9_learn_20 (by decide) ?_
          exact zx_ri F hr hW hS h dX9_learn_21
theorem Y_X9_told : zx_Y yX9_told cX9_told 10 (some (.int)) 4 := ⟨wc_X9_told, wn_X9, by decide, by decide, by decide +kernel⟩
set_option maxHeartbeats 4000000 in
set_option maxRecDepth 100000 in
theorem k_X9_told_L104 {l : Launch} {D : va_G} {a : Nat → Nat} {cs : zx_C} {p : Program} {e : Env} {s : State} {m : MethodId} {below : List Frame} {meth : Method} {c : Code} {fu : Nat} {p0 : Int32} {p1 : Int32} {p2 : Int32} {p3 : Int32}  (F : zx_F D a cs p m c cX9_told 10 s ([.ref (a 43), .int p0, .int p1, .int p2, .int p3] : List Value).toArray RX9 meth) (hr : meth.sig.returnType = (some (.int))) {r9 : Int32} {S9 : St}    : ∀ (n : Nat) (v1 : Int32) (v7 : Int32) (S : St), f_X9_told_L104 fu p0 p1 p2 p3   n v1 v7 S = some (r9, S9) → ∀ (H : Heap) (locs : List Loc) (ls : Array Slot), zx_W D a cs S H → va_S (zx_A a) s.heap H locs → lv_has ls 10 [(0, .ref (a 43)), (1, .int v1), (7, .int v7)] → W p l e ({ frames := 0, cells := 0, slots := 0, locals := 0 }) s m ([.ref (a 43), .int p0, .int p1, .int p2, .int p3] : List Value).toArray below meth c H locs 0 0 (MQ below (zx_Qi D a cs r9 S9) ([.ref (a 43), .int p0, .int p1, .int p2, .int p3] : List Value).toArray s 0 0 (zx_A a)) (F0 m 104 ls []) := by
  obtain ⟨⟨hx, hb, hml, hown, hts⟩, hlk, hK, hJ, hN⟩ := id F
  intro n
  induction n with
  | zero =>
    intro v1 v7 S h
    exact absurd h (fun q => by cases q)
  | succ n ih =>
    intro v1 v7 S h H locs ls hW hS hl
    rw [f_X9_told_L104_s] at h
    refine lv_aload_n hx hb dX9_told_104 rfl (lv_at hl 0 rfl) ?_
    refine zx_get (C := RX9) (T := TX9) (N := 35) F hW wu_X9 (by decide) zx_E43 rfl 5 (by decide) wf_X9_19 rfl dX9_told_105 ?_
    refine lv_sipush (v := 256) hx hb dX9_told_108 (by decide) ?_
    refine lv_iload_n hx hb dX9_told_111 rfl (lv_at hl 1 rfl) ?_
    refine lv_imul hx hb dX9_told_112 ?_
    refine lv_iload hx hb dX9_told_113 (lv_at hl 2 rfl) ?_
    refine lv_iadd hx hb dX9_told_115 ?_
    obtain ⟨c6, h⟩ := g_no h
    refine zx_iald (n := 1792) F hW (by decide) zx_E47 c6 dX9_told_116 ?_
    refine lv_if_ne (tgt := 126) hx hb dX9_told_117 (by decide) (fun c7 => ?_) (fun c7 => ?_)
    · have h := g_f c7 h
      refine lv_iload hx hb dX9_told_126 (lv_at hl 2 rfl) ?_
      exact zx_ri F hr hW hS h dX9_told_128
    · have h := g_t c7 h
      obtain ⟨x8, ex8, h⟩ := g_pin h
      refine lv_iinc (v := x8) (lv' := [(7, .int x8), (0, .ref (a 43)), (1, .int v1)]) hx hb dX9_told_120 hl (k := 2) rfl (by rw [ex8]; rfl) (by decide) rfl (fun ls hl => ?_)
      refine lv_goto (tgt := 104) hx hb dX9_told_123 (by decide) ?_
      exact ih v1 x8 S h _ _ _ hW hS (lv_sub hl [1, 2, 0] rfl)
set_option maxHeartbeats 4000000 in
set_option maxRecDepth 100000 in
theorem k_X9_told_L101 {l : Launch} {D : va_G} {a : Nat → Nat} {cs : zx_C} {p : Program} {e : Env} {s : State} {m : MethodId} {below : List Frame} {meth : Method} {c : Code} {fu : Nat} {p0 : Int32} {p1 : Int32} {p2 : Int32} {p3 : Int32}  (F : zx_F D a cs p m c cX9_told 10 s ([.ref (a 43), .int p0, .int p1, .int p2, .int p3] : List Value).toArray RX9 meth) (hr : meth.sig.returnType = (some (.int))) {r9 : Int32} {S9 : St} {K52 : Int32 → Int32 → Int32 → Int32 → St → Option (Int32 × St)} (hK52 : ∀ (v1 : Int32) (v6 : Int32) (v7 : Int32) (v8 : Int32) (S : St), K52 v1 v6 v7 v8 S = some (r9, S9) → ∀ (H : Heap) (locs : List Loc) (ls : Array Slot), zx_W D a cs S H → va_S (zx_A a) s.heap H locs → lv_has ls 10 [(0, .ref (a 43)), (1, .int v1), (6, .int v6), (7, .int v7), (8, .int v8)] → W p l e ({ frames := 0, cells := 0, slots := 0, locals := 0 }) s m ([.ref (a 43), .int p0, .int p1, .int p2, .int p3] : List Value).toArray below meth c H locs 0 0 (MQ below (zx_Qi D a cs r9 S9) ([.ref (a 43), .int p0, .int p1, .int p2, .int p3] : List Value).toArray s 0 0 (zx_A a)) (F0 m 52 ls []))  (v1 : Int32) (v6 : Int32) (v7 : Int32) (v8 : Int32) (S : St) (h : f_X9_told_L101 fu p0 p1 p2 p3 K52  v1 v6 v7 v8 S = some (r9, S9)) (H : Heap) (locs : List Loc) (ls : Array Slot) (hW : zx_W D a cs S H) (hS : va_S (zx_A a) s.heap H locs) (hl : lv_has ls 10 [(0, .ref (a 43)), (1, .int v1), (6, .int v6), (7, .int v7), (8, .int v8)]) : W p l e ({ frames := 0, cells := 0, slots := 0, locals := 0 }) s m ([.ref (a 43), .int p0, .int p1, .int p2, .int p3] : List Value).toArray below meth c H locs 0 0 (MQ below (zx_Qi D a cs r9 S9) ([.ref (a 43), .int p0, .int p1, .int p2, .int p3] : List Value).toArray s 0 0 (zx_A a)) (F0 m 101 ls []) := by
  obtain ⟨⟨hx, hb, hml, hown, hts⟩, hlk, hK, hJ, hN⟩ := id F
  unfold f_X9_told_L101 at h
  refine lv_goto (tgt := 52) hx hb dX9_told_101 (by decide) ?_
  exact hK52 v1 v6 v7 v8 S h _ _ _ hW hS (lv_sub hl [0, 1, 2, 3, 4] rfl)
set_option maxHeartbeats 4000000 in
set_option maxRecDepth 100000 in
theorem k_X9_told_L52 {l : Launch} {D : va_G} {a : Nat → Nat} {cs : zx_C} {p : Program} {e : Env} {s : State} {m : MethodId} {below : List Frame} {meth : Method} {c : Code} {fu : Nat} {p0 : Int32} {p1 : Int32} {p2 : Int32} {p3 : Int32}  (F : zx_F D a cs p m c cX9_told 10 s ([.ref (a 43), .int p0, .int p1, .int p2, .int p3] : List Value).toArray RX9 meth) (hr : meth.sig.returnType = (some (.int))) {r9 : Int32} {S9 : St}    : ∀ (n : Nat) (v1 : Int32) (v6 : Int32) (v7 : Int32) (v8 : Int32) (S : St), f_X9_told_L52 fu p0 p1 p2 p3   n v1 v6 v7 v8 S = some (r9, S9) → ∀ (H : Heap) (locs : List Loc) (ls : Array Slot), zx_W D a cs S H → va_S (zx_A a) s.heap H locs → lv_has ls 10 [(0, .ref (a 43)), (1, .int v1), (6, .int v6), (7, .int v7), (8, .int v8)] → W p l e ({ frames := 0, cells := 0, slots := 0, locals := 0 }) s m ([.ref (a 43), .int p0, .int p1, .int p2, .int p3] : List Value).toArray below meth c H locs 0 0 (MQ below (zx_Qi D a cs r9 S9) ([.ref (a 43), .int p0, .int p1, .int p2, .int p3] : List Value).toArray s 0 0 (zx_A a)) (F0 m 52 ls []) := by
  obtain ⟨⟨hx, hb, hml, hown, hts⟩, hlk, hK, hJ, hN⟩ := id F
  intro n
  induction n with
  | zero =>
    intro v1 v6 v7 v8 S h
    exact absurd h (fun q => by cases q)
  | succ n ih =>
    intro v1 v6 v7 v8 S h H locs ls hW hS hl
    rw [f_X9_told_L52_s] at h
    refine lv_iload hx hb dX9_told_52 (lv_at hl 3 rfl) ?_
    refine lv_iload hx hb dX9_told_54 (lv_at hl 4 rfl) ?_
    refine lv_icmp_ge (tgt := 104) hx hb dX9_told_56 (by decide) (fun c5 => ?_) (fun c5 => ?_)
    · have h := g_t c5 h
      exact k_X9_told_L104  F hr   fu v1 v7 S h _ _ _ hW hS (lv_sub hl [0, 1, 3] rfl)
    · have h := g_f c5 h
      refine lv_iload hx hb dX9_told_59 (lv_at hl 3 rfl) ?_
      refine lv_iload hx hb dX9_told_61 (lv_at hl 4 rfl) ?_
      refine lv_iadd hx hb dX9_told_63 ?_
      refine lv_iconst (v := 1) hx hb dX9_told_64 (by decide) ?_
      refine lv_iadd hx hb dX9_told_65 ?_
      refine lv_iconst (v := 2) hx hb dX9_told_66 (by decide) ?_
      refine lv_idiv hx hb dX9_told_67 (by decide) ?_
      obtain ⟨x9, ex9, h⟩ := g_pin h
      refine zx_nm ex9 ?_
      refine lv_istore (lv' := [(9, .int x9), (0, .ref (a 43)), (1, .int v1), (6, .int v6), (7, .int v7), (8, .int v8)]) hx hb dX9_told_68 hl (by decide) rfl (fun ls hl => ?_)
      refine lv_aload_n hx hb dX9_told_70 rfl (lv_at hl 1 rfl) ?_
      refine zx_get (C := RX9) (T := TX9) (N := 35) F hW wu_X9 (by decide) zx_E43 rfl 6 (by decide) wf_X9_22 rfl dX9_told_71 ?_
      refine lv_sipush (v := 256) hx hb dX9_told_74 (by decide) ?_
      refine lv_iload_n hx hb dX9_told_77 rfl (lv_at hl 2 rfl) ?_
      refine lv_imul hx hb dX9_told_78 ?_
      refine lv_iload hx hb dX9_told_79 (lv_at hl 0 rfl) ?_
      refine lv_iadd hx hb dX9_told_81 ?_
      obtain ⟨c10, h⟩ := g_no h
      refine zx_iald (n := 1792) F hW (by decide) zx_E48 c10 dX9_told_82 ?_
      refine lv_iload hx hb dX9_told_83 (lv_at hl 3 rfl) ?_
      refine lv_icmp_gt (tgt := 95) hx hb dX9_told_85 (by decide) (fun c11 => ?_) (fun c11 => ?_)
      · have h := g_t c11 h
        refine lv_iload hx hb dX9_told_95 (lv_at hl 0 rfl) ?_
        refine lv_iconst (v := 1) hx hb dX9_told_97 (by decide) ?_
        refine lv_isub hx hb dX9_told_98 ?_
        obtain ⟨x12, ex12, h⟩ := g_pin h
        refine zx_nm ex12 ?_
        refine lv_istore (lv' := [(8, .int x12), (9, .int x9), (0, .ref (a 43)), (1, .int v1), (6, .int v6), (7, .int v7)]) hx hb dX9_told_99 hl (by decide) rfl (fun ls hl => ?_)
        exact k_X9_told_L101  F hr ih  v1 v6 v7 x12 S h _ _ _ hW hS (lv_sub hl [2, 3, 4, 5, 0] rfl)
      · have h := g_f c11 h
        refine lv_iload hx hb dX9_told_88 (lv_at hl 0 rfl) ?_
        refine lv_istore (lv' := [(7, .int x9), (9, .int x9), (0, .ref (a 43)), (1, .int v1), (6, .int v6), (8, .int v8)]) hx hb dX9_told_90 hl (by decide) rfl (fun ls hl => ?_)
        refine lv_goto (tgt := 101) hx hb dX9_told_92 (by decide) ?_
        exact k_X9_told_L101  F hr ih  v1 v6 x9 v8 S h _ _ _ hW hS (lv_sub hl [2, 3, 4, 0, 5] rfl)
set_option maxHeartbeats 4000000 in
set_option maxRecDepth 100000 in
theorem c_X9_told (l : Launch) (D : va_G) (a : Nat → Nat) (cs : zx_C) (fu : Nat) (p0 : Int32) (p1 : Int32) (p2 : Int32) (p3 : Int32)  (S : St) (r9 : Int32) (S9 : St) (h : f_X9_told fu p0 p1 p2 p3 S = some (r9, S9)) : Met l yX9_told (Cond.code yX9_told cX9_told 10 (some (.int)) :: zx_tb) ({ frames := 0, cells := 0, slots := 0, locals := 0 }) (zx_P D a cs [.ref (a 43), .int p0, .int p1, .int p2, .int p3] S) (zx_Qi D a cs r9 S9) 0 0 (zx_A a) := by
  refine zx_met (own := RX9) (by decide) (Nat.le_of_ble_eq_true rfl) rfl ?_
  intro p e s m below meth c ls F hr hW hS hl
  have hl : lv_has ls 10 [(0, .ref (a 43)), (1, .int p0), (2, .int p1), (3, .int p2), (4, .int p3)] := hl
  obtain ⟨⟨hx, hb, hml, hown, hts⟩, hlk, hK, hJ, hN⟩ := id F
  unfold f_X9_told at h
  refine lv_iconst (v := 1) hx hb dX9_told_0 (by decide) ?_
  refine lv_aload_n hx hb dX9_told_1 rfl (lv_at hl 0 rfl) ?_
  refine zx_get (C := RX9) (T := TX9) (N := 35) F hW wu_X9 (by decide) zx_E43 rfl 4 (by decide) wf_X9_16 rfl dX9_told_2 ?_
  refine lv_iload_n hx hb dX9_told_5 rfl (lv_at hl 1 rfl) ?_
  obtain ⟨c1, h⟩ := g_no h
  refine zx_iald (n := 7) F hW (by decide) zx_E46 c1 dX9_told_6 ?_
  refine lv_ishl hx hb dX9_told_7 ?_
  obtain ⟨x2, ex2, h⟩ := g_pin h
  refine zx_nm ex2 ?_
  refine lv_istore (lv' := [(5, .int x2), (0, .ref (a 43)), (1, .int p0), (2, .int p1), (3, .int p2), (4, .int p3)]) hx hb dX9_told_8 hl (by decide) rfl (fun ls hl => ?_)
  refine lv_iload_n hx hb dX9_told_10 rfl (lv_at hl 3 rfl) ?_
  refine lv_if_ne (tgt := 35) hx hb dX9_told_11 (by decide) (fun c3 => ?_) (fun c3 => ?_)
  · have h := g_f c3 h
    refine lv_iload hx hb dX9_told_35 (lv_at hl 5 rfl) ?_
    refine lv_iload hx hb dX9_told_37 (lv_at hl 0 rfl) ?_
    refine lv_iconst (v := 1) hx hb dX9_told_39 (by decide) ?_
    refine lv_isub hx hb dX9_told_40 ?_
    refine lv_iand hx hb dX9_told_41 ?_
    obtain ⟨x4, ex4, h⟩ := g_pin h
    refine zx_nm ex4 ?_
    refine lv_istore (lv' := [(6, .int x4), (5, .int x2), (0, .ref (a 43)), (1, .int p0), (2, .int p1), (3, .int p2), (4, .int p3)]) hx hb dX9_told_42 hl (by decide) rfl (fun ls hl => ?_)
    refine lv_iconst (v := 0) hx hb dX9_told_44 (by decide) ?_
    refine lv_istore (lv' := [(7, .int (0 : Int32)), (6, .int x4), (5, .int x2), (0, .ref (a 43)), (1, .int p0), (2, .int p1), (3, .int p2), (4, .int p3)]) hx hb dX9_told_45 hl (by decide) rfl (fun ls hl => ?_)
    refine lv_sipush (v := 255) hx hb dX9_told_47 (by decide) ?_
    refine lv_istore (lv' := [(8, .int (255 : Int32)), (7, .int (0 : Int32)), (6, .int x4), (5, .int x2), (0, .ref (a 43)), (1, .int p0), (2, .int p1), (3, .int p2), (4, .int p3)]) hx hb dX9_told_50 hl (by decide) rfl (fun ls hl => ?_)
    exact k_X9_told_L52  F hr   fu p0 x4 (0 : Int32) (255 : Int32) S h _ _ _ hW hS (lv_sub hl [4, 5, 2, 1, 0] rfl)
  · have h := g_t c3 h
    refine lv_aload_n hx hb dX9_told_14 rfl (lv_at hl 1 rfl) ?_
    refine zx_get (C := RX9) (T := TX9) (N := 35) F hW wu_X9 (by decide) zx_E43 rfl 8 (by decide) wf_X9_30 rfl dX9_told_15 ?_
    refine lv_sipush (v := 4096) hx hb dX9_told_18 (by decide) ?_
    refine lv_iconst (v := 3) hx hb dX9_told_21 (by decide) ?_
    refine lv_iload_n hx hb dX9_told_22 rfl (lv_at hl 2 rfl) ?_
    refine lv_imul hx hb dX9_told_23 ?_
    refine lv_iload_n hx hb dX9_told_24 rfl (lv_at hl 4 rfl) ?_
    refine lv_iadd hx hb dX9_told_25 ?_
    refine lv_imul hx hb dX9_told_26 ?_
    refine lv_iload hx hb dX9_told_27 (lv_at hl 5 rfl) ?_
    refine lv_iadd hx hb dX9_told_29 ?_
    refine lv_iload hx hb dX9_told_30 (lv_at hl 0 rfl) ?_
    refine lv_isub hx hb dX9_told_32 ?_
    obtain ⟨c13, h⟩ := g_no h
    refine zx_iald (n := 86016) F hW (by decide) zx_E50 c13 dX9_told_33 ?_
    exact zx_ri F hr hW hS h dX9_told_34
theorem Y_X9_left : zx_Y yX9_left cX9_left 5 (some (.int)) 4 := ⟨wc_X9_left, wn_X9, by decide, by decide, by decide +kernel⟩
set_option maxHeartbeats 4000000 in
set_option maxRecDepth 100000 in
theorem c_X9_left (l : Launch) (D : va_G) (a : Nat → Nat) (cs : zx_C) (fu : Nat) (p0 : Int32) (p1 : Int32) (p2 : Int32) (p3 : Int32)  (S : St) (r9 : Int32) (S9 : St) (h : f_X9_left fu p0 p1 p2 p3 S = some (r9, S9)) : Met l yX9_left (Cond.code yX9_left cX9_left 5 (some (.int)) :: zx_tb) ({ frames := 5, cells := 0, slots := 0, locals := 127 }) (zx_P D a cs [.ref (a 43), .int p0, .int p1, .int p2, .int p3] S) (zx_Qi D a cs r9 S9) 0 0 (zx_A a) := by
  refine zx_met (own := RX9) (by decide) (Nat.le_of_ble_eq_true rfl) rfl ?_
  intro p e s m below meth c ls F hr hW hS hl
  have hl : lv_has ls 5 [(0, .ref (a 43)), (1, .int p0), (2, .int p1), (3, .int p2), (4, .int p3)] := hl
  obtain ⟨⟨hx, hb, hml, hown, hts⟩, hlk, hK, hJ, hN⟩ := id F
  unfold f_X9_left at h
  refine lv_aload_n hx hb dX9_left_0 rfl (lv_at hl 0 rfl) ?_
  refine lv_iload_n hx hb dX9_left_1 rfl (lv_at hl 1 rfl) ?_
  refine lv_iload_n hx hb dX9_left_2 rfl (lv_at hl 2 rfl) ?_
  refine lv_iload_n hx hb dX9_left_3 rfl (lv_at hl 3 rfl) ?_
  refine lv_iload hx hb dX9_left_4 (lv_at hl 4 rfl) ?_
  obtain ⟨r1, S2, h3, h⟩ := g_bd h
  refine zx_ci (zx_runV (q := (RX9, TX9, 35)) (As := [.int p0, .int p1, .int p2, .int p3]) (rest := []) F hW (c_X9_isAsked l D a cs fu p0 p1 p2 p3  S r1 S2 h3) Y_X9_isAsked wi_X9_isAsked ws_X9_isAsked wm_X9_126 ⟨rfl, rfl, Nat.le_of_ble_eq_true rfl, Nat.le_of_ble_eq_true rfl, Nat.le_of_ble_eq_true rfl, Nat.le_of_ble_eq_true rfl⟩ (by decide) zx_E43 rfl rfl hl.1 rfl (Nat.le_of_ble_eq_true rfl) dX9_left_6) hS (fun H locs hW hS => ?_)
  refine lv_if_eq (tgt := 33) hx hb dX9_left_9 (by decide) (fun c4 => ?_) (fun c4 => ?_)
  · have h := g_t c4 h
    refine lv_iconst (v := -1) hx hb dX9_left_33 (by decide) ?_
    exact zx_ri F hr hW hS h dX9_left_34
  · have h := g_f c4 h
    refine lv_aload_n hx hb dX9_left_12 rfl (lv_at hl 0 rfl) ?_
    refine lv_iload_n hx hb dX9_left_13 rfl (lv_at hl 1 rfl) ?_
    refine lv_iload_n hx hb dX9_left_14 rfl (lv_at hl 2 rfl) ?_
    refine lv_iload_n hx hb dX9_left_15 rfl (lv_at hl 3 rfl) ?_
    refine lv_iload hx hb dX9_left_16 (lv_at hl 4 rfl) ?_
    refine lv_aload_n hx hb dX9_left_18 rfl (lv_at hl 0 rfl) ?_
    refine lv_iload_n hx hb dX9_left_19 rfl (lv_at hl 1 rfl) ?_
    refine lv_iload_n hx hb dX9_left_20 rfl (lv_at hl 2 rfl) ?_
    refine lv_iload_n hx hb dX9_left_21 rfl (lv_at hl 3 rfl) ?_
    refine lv_iload hx hb dX9_left_22 (lv_at hl 4 rfl) ?_
    obtain ⟨r5, S6, h7, h⟩ := g_bd h
    refine zx_ci (zx_runV (q := (RX9, TX9, 35)) (As := [.int p0, .int p1, .int p2, .int p3]) (rest := [.int p3, .int p2, .int p1, .int p0, .ref (a 43)]) F hW (c_X9_told l D a cs fu p0 p1 p2 p3  S2 r5 S6 h7) Y_X9_told wi_X9_told ws_X9_told wm_X9_140 ⟨rfl, rfl, Nat.le_of_ble_eq_true rfl, Nat.le_of_ble_eq_true rfl, Nat.le_of_ble_eq_true rfl, Nat.le_of_ble_eq_true rfl⟩ (by decide) zx_E43 rfl rfl hl.1 rfl (Nat.le_of_ble_eq_true rfl) dX9_left_24) hS (fun H locs hW hS => ?_)
    obtain ⟨r8, S9, h10, h⟩ := g_bd h
    refine zx_ci (zx_runV (q := (RX9, TX9, 35)) (As := [.int p0, .int p1, .int p2, .int p3, .int r5]) (rest := []) F hW (c_X9_behind l D a cs p0 p1 p2 p3 r5  S6 r8 S9 h10) Y_X9_behind wi_X9_behind ws_X9_behind wm_X9_144 ⟨rfl, rfl, Nat.le_of_ble_eq_true rfl, Nat.le_of_ble_eq_true rfl, Nat.le_of_ble_eq_true rfl, Nat.le_of_ble_eq_true rfl⟩ (by decide) zx_E43 rfl rfl hl.1 rfl (Nat.le_of_ble_eq_true rfl) dX9_left_27) hS (fun H locs hW hS => ?_)
    refine lv_goto (tgt := 34) hx hb dX9_left_30 (by decide) ?_
    exact zx_ri F hr hW hS h dX9_left_34
theorem Y_X9_log : zx_Y yX9_log cX9_log 2 (some (.int)) 1 := ⟨wc_X9_log, wn_X9, by decide, by decide, by decide +kernel⟩
set_option maxHeartbeats 4000000 in
set_option maxRecDepth 100000 in
theorem c_X9_log (l : Launch) (D : va_G) (a : Nat → Nat) (cs : zx_C) (p0 : Int32)  (S : St) (r9 : Int32) (S9 : St) (h : f_X9_log p0 S = some (r9, S9)) : Met l yX9_log (Cond.code yX9_log cX9_log 2 (some (.int)) :: zx_tb) ({ frames := 1, cells := 0, slots := 0, locals := 21 }) (zx_P D a cs [.ref (a 43), .int p0] S) (zx_Qi D a cs r9 S9) 0 0 (zx_A a) := by
  refine zx_met (own := RX9) (by decide) (Nat.le_of_ble_eq_true rfl) rfl ?_
  intro p e s m below meth c ls F hr hW hS hl
  have hl : lv_has ls 2 [(0, .ref (a 43)), (1, .int p0)] := hl
  obtain ⟨⟨hx, hb, hml, hown, hts⟩, hlk, hK, hJ, hN⟩ := id F
  unfold f_X9_log at h
  refine lv_aload_n hx hb dX9_log_0 rfl (lv_at hl 0 rfl) ?_
  refine lv_iload_n hx hb dX9_log_1 rfl (lv_at hl 1 rfl) ?_
  obtain ⟨r1, S2, h3, h⟩ := g_bd h
  refine zx_ci (zx_runV (q := (RX9, TX9, 35)) (As := [.int p0]) (rest := []) F hW (c_X9_isTable l D a cs p0  S r1 S2 h3) Y_X9_isTable wi_X9_isTable ws_X9_isTable wm_X9_84 ⟨rfl, rfl, Nat.le_of_ble_eq_true rfl, Nat.le_of_ble_eq_true rfl, Nat.le_of_ble_eq_true rfl, Nat.le_of_ble_eq_true rfl⟩ (by decide) zx_E43 rfl rfl hl.1 rfl (Nat.le_of_ble_eq_true rfl) dX9_log_2) hS (fun H locs hW hS => ?_)
  refine lv_if_eq (tgt := 17) hx hb dX9_log_5 (by decide) (fun c4 => ?_) (fun c4 => ?_)
  · have h := g_t c4 h
    refine lv_iconst (v := -1) hx hb dX9_log_17 (by decide) ?_
    exact zx_ri F hr hW hS h dX9_log_18
  · have h := g_f c4 h
    refine lv_aload_n hx hb dX9_log_8 rfl (lv_at hl 0 rfl) ?_
    refine zx_get (C := RX9) (T := TX9) (N := 35) F hW wu_X9 (by decide) zx_E43 rfl 4 (by decide) wf_X9_16 rfl dX9_log_9 ?_
    refine lv_iload_n hx hb dX9_log_12 rfl (lv_at hl 1 rfl) ?_
    obtain ⟨c5, h⟩ := g_no h
    refine zx_iald (n := 7) F hW (by decide) zx_E46 c5 dX9_log_13 ?_
    refine lv_goto (tgt := 18) hx hb dX9_log_14 (by decide) ?_
    exact zx_ri F hr hW hS h dX9_log_18
theorem Y_X9_look : zx_Y yX9_look cX9_look 2 (some (.int)) 1 := ⟨wc_X9_look, wn_X9, by decide, by decide, by decide +kernel⟩
set_option maxHeartbeats 4000000 in
set_option maxRecDepth 100000 in
theorem c_X9_look (l : Launch) (D : va_G) (a : Nat → Nat) (cs : zx_C) (p0 : Int32)  (S : St) (r9 : Int32) (S9 : St) (h : f_X9_look p0 S = some (r9, S9)) : Met l yX9_look (Cond.code yX9_look cX9_look 2 (some (.int)) :: zx_tb) ({ frames := 0, cells := 0, slots := 0, locals := 0 }) (zx_P D a cs [.ref (a 43), .int p0] S) (zx_Qi D a cs r9 S9) 0 0 (zx_A a) := by
  refine zx_met (own := RX9) (by decide) (Nat.le_of_ble_eq_true rfl) rfl ?_
  intro p e s m below meth c ls F hr hW hS hl
  have hl : lv_has ls 2 [(0, .ref (a 43)), (1, .int p0)] := hl
  obtain ⟨⟨hx, hb, hml, hown, hts⟩, hlk, hK, hJ, hN⟩ := id F
  unfold f_X9_look at h
  refine lv_iload_n hx hb dX9_look_0 rfl (lv_at hl 1 rfl) ?_
  refine lv_if_lt (tgt := 9) hx hb dX9_look_1 (by decide) (fun c1 => ?_) (fun c1 => ?_)
  · have h := g_t c1 h
    refine lv_iconst (v := -1) hx hb dX9_look_9 (by decide) ?_
    refine lv_goto (tgt := 19) hx hb dX9_look_10 (by decide) ?_
    exact zx_ri F hr hW hS h dX9_look_19
  · have h := g_f c1 h
    refine lv_iload_n hx hb dX9_look_4 rfl (lv_at hl 1 rfl) ?_
    refine lv_iconst (v := 5) hx hb dX9_look_5 (by decide) ?_
    refine lv_icmp_le (tgt := 13) hx hb dX9_look_6 (by decide) (fun c2 => ?_) (fun c2 => ?_)
    · have h := g_t c2 h
      refine lv_aload_n hx hb dX9_look_13 rfl (lv_at hl 0 rfl) ?_
      refine zx_get (C := RX9) (T := TX9) (N := 35) F hW wu_X9 (by decide) zx_E43 rfl 15 (by decide) wf_X9_48 rfl dX9_look_14 ?_
      refine lv_iload_n hx hb dX9_look_17 rfl (lv_at hl 1 rfl) ?_
      obtain ⟨c3, h⟩ := g_no h
      refine zx_iald (n := 6) F hW (by decide) zx_E56 c3 dX9_look_18 ?_
      exact zx_ri F hr hW hS h dX9_look_19
    · have h := g_f c2 h
      refine lv_iconst (v := -1) hx hb dX9_look_9 (by decide) ?_
      refine lv_goto (tgt := 19) hx hb dX9_look_10 (by decide) ?_
      exact zx_ri F hr hW hS h dX9_look_19
theorem Y_X9_meets : zx_Y yX9_meets cX9_meets 2 none 1 := ⟨wc_X9_meets, wn_X9, by decide, by decide, by decide +kernel⟩
set_option maxHeartbeats 4000000 in
set_option maxRecDepth 100000 in
theorem k_X9_meets_L25 {l : Launch} {D : va_G} {a : Nat → Nat} {cs : zx_C} {p : Program} {e : Env} {s : State} {m : MethodId} {below : List Frame} {meth : Method} {c : Code} {p0 : Int32}  (F : zx_F D a cs p m c cX9_meets 2 s ([.ref (a 43), .int p0] : List Value).toArray RX9 meth) (hr : meth.sig.returnType = none) {r9 : Int32} {S9 : St}    (v1 : Int32) (t0 : Int32) (t1 : Int32) (S : St) (h : f_X9_meets_L25 p0   v1 t0 t1 S = some (r9, S9)) (H : Heap) (locs : List Loc) (ls : Array Slot) (hW : zx_W D a cs S H) (hS : va_S (zx_A a) s.heap H locs) (hl : lv_has ls 2 [(0, .ref (a 43)), (1, .int v1)]) : W p l e ({ frames := 0, cells := 0, slots := 0, locals := 0 }) s m ([.ref (a 43), .int p0] : List Value).toArray below meth c H locs 0 0 (MQ below (zx_Qv D a cs S9) ([.ref (a 43), .int p0] : List Value).toArray s 0 0 (zx_A a)) (F0 m 25 ls [.int t0, .int t1, .ref (a 59)]) := by
  obtain ⟨⟨hx, hb, hml, hown, hts⟩, hlk, hK, hJ, hN⟩ := id F
  unfold f_X9_meets_L25 at h
  obtain ⟨c3, h⟩ := g_no h
  obtain ⟨S2, eS2, h⟩ := g_pin h
  refine zx_iast (n := 6) F hW hS (by decide) (fun f => zx_E59) c3 dX9_meets_25 (fun H locs hW hS => ?_)
  have hW : zx_W D a cs S2 H := by rw [eS2]; exact hW
  refine lv_aload_n hx hb dX9_meets_26 rfl (lv_at hl 0 rfl) ?_
  refine zx_get (C := RX9) (T := TX9) (N := 35) F hW wu_X9 (by decide) zx_E43 rfl 25 (by decide) wf_X9_61 rfl dX9_meets_27 ?_
  refine lv_iconst (v := 1) hx hb dX9_meets_30 (by decide) ?_
  refine lv_iload_n hx hb dX9_meets_31 rfl (lv_at hl 1 rfl) ?_
  refine lv_aload_n hx hb dX9_meets_32 rfl (lv_at hl 0 rfl) ?_
  refine zx_get (C := RX9) (T := TX9) (N := 35) F hW wu_X9 (by decide) zx_E43 rfl 25 (by decide) wf_X9_61 rfl dX9_meets_33 ?_
  refine lv_iconst (v := 1) hx hb dX9_meets_36 (by decide) ?_
  refine zx_iald (n := 6) F hW (by decide) zx_E59 (by unfold vp_in; decide) dX9_meets_37 ?_
  refine zx_nm (z := (S2 59 1)) rfl ?_
  refine lv_icmp_le (tgt := 45) hx hb dX9_meets_38 (by decide) (fun c4 => ?_) (fun c4 => ?_)
  · have h := g_t c4 h
    refine lv_aload_n hx hb dX9_meets_45 rfl (lv_at hl 0 rfl) ?_
    refine zx_get (C := RX9) (T := TX9) (N := 35) F hW wu_X9 (by decide) zx_E43 rfl 25 (by decide) wf_X9_61 rfl dX9_meets_46 ?_
    refine lv_iconst (v := 1) hx hb dX9_meets_49 (by decide) ?_
    refine zx_iald (n := 6) F hW (by decide) zx_E59 (by unfold vp_in; decide) dX9_meets_50 ?_
    refine zx_nm (z := (S2 59 1)) rfl ?_
    obtain ⟨S5, eS5, h⟩ := g_pin h
    refine zx_iast (n := 6) F hW hS (by decide) (fun f => zx_E59) (by unfold vp_in; decide) dX9_meets_51 (fun H locs hW hS => ?_)
    have hW : zx_W D a cs S5 H := by rw [eS5]; exact hW
    exact zx_rv F hr hW hS h dX9_meets_52
  · have h := g_f c4 h
    refine lv_iload_n hx hb dX9_meets_41 rfl (lv_at hl 1 rfl) ?_
    refine lv_goto (tgt := 51) hx hb dX9_meets_42 (by decide) ?_
    obtain ⟨S6, eS6, h⟩ := g_pin h
    refine zx_iast (n := 6) F hW hS (by decide) (fun f => zx_E59) (by unfold vp_in; decide) dX9_meets_51 (fun H locs hW hS => ?_)
    have hW : zx_W D a cs S6 H := by rw [eS6]; exact hW
    exact zx_rv F hr hW hS h dX9_meets_52
set_option maxHeartbeats 4000000 in
set_option maxRecDepth 100000 in
theorem c_X9_meets (l : Launch) (D : va_G) (a : Nat → Nat) (cs : zx_C) (p0 : Int32)  (S : St) (r9 : Int32) (S9 : St) (h : f_X9_meets p0 S = some (r9, S9)) : Met l yX9_meets (Cond.code yX9_meets cX9_meets 2 none :: zx_tb) ({ frames := 0, cells := 0, slots := 0, locals := 0 }) (zx_P D a cs [.ref (a 43), .int p0] S) (zx_Qv D a cs S9) 0 0 (zx_A a) := by
  refine zx_met (own := RX9) (by decide) (Nat.le_of_ble_eq_true rfl) rfl ?_
  intro p e s m below meth c ls F hr hW hS hl
  have hl : lv_has ls 2 [(0, .ref (a 43)), (1, .int p0)] := hl
  obtain ⟨⟨hx, hb, hml, hown, hts⟩, hlk, hK, hJ, hN⟩ := id F
  unfold f_X9_meets at h
  refine lv_aload_n hx hb dX9_meets_0 rfl (lv_at hl 0 rfl) ?_
  refine zx_get (C := RX9) (T := TX9) (N := 35) F hW wu_X9 (by decide) zx_E43 rfl 25 (by decide) wf_X9_61 rfl dX9_meets_1 ?_
  refine lv_iconst (v := 0) hx hb dX9_meets_4 (by decide) ?_
  refine lv_iload_n hx hb dX9_meets_5 rfl (lv_at hl 1 rfl) ?_
  refine lv_aload_n hx hb dX9_meets_6 rfl (lv_at hl 0 rfl) ?_
  refine zx_get (C := RX9) (T := TX9) (N := 35) F hW wu_X9 (by decide) zx_E43 rfl 25 (by decide) wf_X9_61 rfl dX9_meets_7 ?_
  refine lv_iconst (v := 0) hx hb dX9_meets_10 (by decide) ?_
  refine zx_iald (n := 6) F hW (by decide) zx_E59 (by unfold vp_in; decide) dX9_meets_11 ?_
  refine zx_nm (z := (S 59 0)) rfl ?_
  refine lv_icmp_ge (tgt := 19) hx hb dX9_meets_12 (by decide) (fun c1 => ?_) (fun c1 => ?_)
  · have h := g_t c1 h
    refine lv_aload_n hx hb dX9_meets_19 rfl (lv_at hl 0 rfl) ?_
    refine zx_get (C := RX9) (T := TX9) (N := 35) F hW wu_X9 (by decide) zx_E43 rfl 25 (by decide) wf_X9_61 rfl dX9_meets_20 ?_
    refine lv_iconst (v := 0) hx hb dX9_meets_23 (by decide) ?_
    refine zx_iald (n := 6) F hW (by decide) zx_E59 (by unfold vp_in; decide) dX9_meets_24 ?_
    refine zx_nm (z := (S 59 0)) rfl ?_
    exact k_X9_meets_L25  F hr   p0 (S 59 0) (0 : Int32) S h _ _ _ hW hS (lv_sub hl [0, 1] rfl)
  · have h := g_f c1 h
    refine lv_iload_n hx hb dX9_meets_15 rfl (lv_at hl 1 rfl) ?_
    refine lv_goto (tgt := 25) hx hb dX9_meets_16 (by decide) ?_
    exact k_X9_meets_L25  F hr   p0 p0 (0 : Int32) S h _ _ _ hW hS (lv_sub hl [0, 1] rfl)
theorem Y_X9_meetsNone : zx_Y yX9_meetsNone cX9_meetsNone 1 none 0 := ⟨wc_X9_meetsNone, wn_X9, by decide, by decide, by decide +kernel⟩
set_option maxHeartbeats 4000000 in
set_option maxRecDepth 100000 in
theorem c_X9_meetsNone (l : Launch) (D : va_G) (a : Nat → Nat) (cs : zx_C)   (S : St) (r9 : Int32) (S9 : St) (h : f_X9_meetsNone  S = some (r9, S9)) : Met l yX9_meetsNone (Cond.code yX9_meetsNone cX9_meetsNone 1 none :: zx_tb) ({ frames := 0, cells := 0, slots := 0, locals := 0 }) (zx_P D a cs [.ref (a 43)] S) (zx_Qv D a cs S9) 0 0 (zx_A a) := by
  refine zx_met (own := RX9) (by decide) (Nat.le_of_ble_eq_true rfl) rfl ?_
  intro p e s m below meth c ls F hr hW hS hl
  have hl : lv_has ls 1 [(0, .ref (a 43))] := hl
  obtain ⟨⟨hx, hb, hml, hown, hts⟩, hlk, hK, hJ, hN⟩ := id F
  unfold f_X9_meetsNone at h
  refine lv_aload_n hx hb dX9_meetsNone_0 rfl (lv_at hl 0 rfl) ?_
  refine zx_get (C := RX9) (T := TX9) (N := 35) F hW wu_X9 (by decide) zx_E43 rfl 25 (by decide) wf_X9_61 rfl dX9_meetsNone_1 ?_
  refine lv_iconst (v := 0) hx hb dX9_meetsNone_4 (by decide) ?_
  refine lv_ldc (v := 2147483647) hx hb hown (hts _ wk_X9_148) dX9_meetsNone_5 ?_
  obtain ⟨S1, eS1, h⟩ := g_pin h
  refine zx_iast (n := 6) F hW hS (by decide) (fun f => zx_E59) (by unfold vp_in; decide) dX9_meetsNone_7 (fun H locs hW hS => ?_)
  have hW : zx_W D a cs S1 H := by rw [eS1]; exact hW
  refine lv_aload_n hx hb dX9_meetsNone_8 rfl (lv_at hl 0 rfl) ?_
  refine zx_get (C := RX9) (T := TX9) (N := 35) F hW wu_X9 (by decide) zx_E43 rfl 25 (by decide) wf_X9_61 rfl dX9_meetsNone_9 ?_
  refine lv_iconst (v := 1) hx hb dX9_meetsNone_12 (by decide) ?_
  refine lv_iconst (v := 0) hx hb dX9_meetsNone_13 (by decide) ?_
  obtain ⟨S2, eS2, h⟩ := g_pin h
  refine zx_iast (n := 6) F hW hS (by decide) (fun f => zx_E59) (by unfold vp_in; decide) dX9_meetsNone_14 (fun H locs hW hS => ?_)
  have hW : zx_W D a cs S2 H := by rw [eS2]; exact hW
  refine lv_aload_n hx hb dX9_meetsNone_15 rfl (lv_at hl 0 rfl) ?_
  refine zx_get (C := RX9) (T := TX9) (N := 35) F hW wu_X9 (by decide) zx_E43 rfl 25 (by decide) wf_X9_61 rfl dX9_meetsNone_16 ?_
  refine lv_iconst (v := 2) hx hb dX9_meetsNone_19 (by decide) ?_
  refine lv_iconst (v := 0) hx hb dX9_meetsNone_20 (by decide) ?_
  obtain ⟨S3, eS3, h⟩ := g_pin h
  refine zx_iast (n := 6) F hW hS (by decide) (fun f => zx_E59) (by unfold vp_in; decide) dX9_meetsNone_21 (fun H locs hW hS => ?_)
  have hW : zx_W D a cs S3 H := by rw [eS3]; exact hW
  refine lv_aload_n hx hb dX9_meetsNone_22 rfl (lv_at hl 0 rfl) ?_
  refine zx_get (C := RX9) (T := TX9) (N := 35) F hW wu_X9 (by decide) zx_E43 rfl 25 (by decide) wf_X9_61 rfl dX9_meetsNone_23 ?_
  refine lv_iconst (v := 3) hx hb dX9_meetsNone_26 (by decide) ?_
  refine lv_iconst (v := 0) hx hb dX9_meetsNone_27 (by decide) ?_
  obtain ⟨S4, eS4, h⟩ := g_pin h
  refine zx_iast (n := 6) F hW hS (by decide) (fun f => zx_E59) (by unfold vp_in; decide) dX9_meetsNone_28 (fun H locs hW hS => ?_)
  have hW : zx_W D a cs S4 H := by rw [eS4]; exact hW
  refine lv_aload_n hx hb dX9_meetsNone_29 rfl (lv_at hl 0 rfl) ?_
  refine zx_get (C := RX9) (T := TX9) (N := 35) F hW wu_X9 (by decide) zx_E43 rfl 25 (by decide) wf_X9_61 rfl dX9_meetsNone_30 ?_
  refine lv_iconst (v := 4) hx hb dX9_meetsNone_33 (by decide) ?_
  refine lv_iconst (v := 0) hx hb dX9_meetsNone_34 (by decide) ?_
  obtain ⟨S5, eS5, h⟩ := g_pin h
  refine zx_iast (n := 6) F hW hS (by decide) (fun f => zx_E59) (by unfold vp_in; decide) dX9_meetsNone_35 (fun H locs hW hS => ?_)
  have hW : zx_W D a cs S5 H := by rw [eS5]; exact hW
  refine lv_aload_n hx hb dX9_meetsNone_36 rfl (lv_at hl 0 rfl) ?_
  refine zx_get (C := RX9) (T := TX9) (N := 35) F hW wu_X9 (by decide) zx_E43 rfl 25 (by decide) wf_X9_61 rfl dX9_meetsNone_37 ?_
  refine lv_iconst (v := 5) hx hb dX9_meetsNone_40 (by decide) ?_
  refine lv_iconst (v := 0) hx hb dX9_meetsNone_41 (by decide) ?_
  obtain ⟨S6, eS6, h⟩ := g_pin h
  refine zx_iast (n := 6) F hW hS (by decide) (fun f => zx_E59) (by unfold vp_in; decide) dX9_meetsNone_42 (fun H locs hW hS => ?_)
  have hW : zx_W D a cs S6 H := by rw [eS6]; exact hW
  exact zx_rv F hr hW hS h dX9_meetsNone_43
theorem Y_X9_number : zx_Y yX9_number cX9_number 5 (some (.long)) 1 := ⟨wc_X9_number, wn_X9, by decide, by decide, by decide +kernel⟩
set_option maxHeartbeats 4000000 in
set_option maxRecDepth 100000 in
theorem k_X9_number_L32 {l : Launch} {D : va_G} {a : Nat → Nat} {cs : zx_C} {p : Program} {e : Env} {s : State} {m : MethodId} {below : List Frame} {meth : Method} {c : Code} {fu : Nat} {p0 : Int32}  (F : zx_F D a cs p m c cX9_number 5 s ([.ref (a 43), .int p0] : List Value).toArray RX9 meth) (hr : meth.sig.returnType = (some (.long))) {r9 : Int64} {S9 : St}    : ∀ (n : Nat) (v1 : Int32) (v2 : Int64) (v4 : Int32) (S : St), f_X9_number_L32 fu p0   n v1 v2 v4 S = some (r9, S9) → ∀ (H : Heap) (locs : List Loc) (ls : Array Slot), zx_W D a cs S H → va_S (zx_A a) s.heap H locs → lv_has ls 5 [(0, .ref (a 43)), (1, .int v1), (2, .long v2), (4, .int v4)] → W p l e ({ frames := 1, cells := 0, slots := 0, locals := 22 }) s m ([.ref (a 43), .int p0] : List Value).toArray below meth c H locs 0 0 (MQ below (zx_Ql D a cs r9 S9) ([.ref (a 43), .int p0] : List Value).toArray s 0 0 (zx_A a)) (F0 m 32 ls []) := by
  obtain ⟨⟨hx, hb, hml, hown, hts⟩, hlk, hK, hJ, hN⟩ := id F
  intro n
  induction n with
  | zero =>
    intro v1 v2 v4 S h
    exact absurd h (fun q => by cases q)
  | succ n ih =>
    intro v1 v2 v4 S h H locs ls hW hS hl
    rw [f_X9_number_L32_s] at h
    refine lv_iload hx hb dX9_number_32 (lv_at hl 3 rfl) ?_
    refine lv_iload_n hx hb dX9_number_34 rfl (lv_at hl 1 rfl) ?_
    refine lv_icmp_ge (tgt := 63) hx hb dX9_number_35 (by decide) (fun c2 => ?_) (fun c2 => ?_)
    · have h := g_t c2 h
      refine lv_aload_n hx hb dX9_number_63 rfl (lv_at hl 0 rfl) ?_
      refine lv_dup hx hb dX9_number_64 rfl ?_
      refine zx_get (C := RX9) (T := TX9) (N := 35) F hW wu_X9 (by decide) zx_E43 rfl 27 (by decide) wf_X9_173 rfl dX9_number_65 ?_
      refine lv_iload_n hx hb dX9_number_68 rfl (lv_at hl 1 rfl) ?_
      refine lv_iadd hx hb dX9_number_69 ?_
      obtain ⟨S3, eS3, h⟩ := g_pin h
      refine zx_putv (C := RX9) (T := TX9) (N := 35) F hW hS wu_X9 tyX9_ok nmX9 (by decide) zx_E43 rfl 27 (by decide) wf_X9_173 rfl ((S 43 27) + v1) rfl rfl (Nat.le_of_ble_eq_true rfl) rfl dX9_number_70 (fun H locs hW hS => ?_)
      have hW : zx_W D a cs S3 H := by rw [eS3]; exact hW
      refine lv_lload_n hx hb dX9_number_73 rfl (lv_at hl 2 rfl) ?_
      exact zx_rl F hr hW hS h dX9_number_74
    · have h := g_f c2 h
      refine lv_lload_n hx hb dX9_number_38 rfl (lv_at hl 2 rfl) ?_
      refine lv_bipush (v := 8) hx hb dX9_number_39 (by decide) ?_
      refine lv_lshl hx hb dX9_number_41 rfl ?_
      refine lv_aload_n hx hb dX9_number_42 rfl (lv_at hl 0 rfl) ?_
      refine zx_get (C := RX9) (T := TX9) (N := 35) F hW wu_X9 (by decide) zx_E43 rfl 0 (by decide) wf_X9_7 rfl dX9_number_43 ?_
      refine lv_aload_n hx hb dX9_number_46 rfl (lv_at hl 0 rfl) ?_
      refine zx_get (C := RX9) (T := TX9) (N := 35) F hW wu_X9 (by decide) zx_E43 rfl 27 (by decide) wf_X9_173 rfl dX9_number_47 ?_
      refine lv_iload hx hb dX9_number_50 (lv_at hl 3 rfl) ?_
      refine lv_iadd hx hb dX9_number_52 ?_
      obtain ⟨c4, h⟩ := g_no h
      refine zx_iald (n := 4000) F hW (by decide) zx_E44 c4 dX9_number_53 ?_
      refine lv_i2l hx hb dX9_number_54 rfl ?_
      refine lv_lor hx hb dX9_number_55 ?_
      obtain ⟨x5, ex5, h⟩ := g_pin h
      refine zx_nml ex5 ?_
      refine lv_lstore_n (lv' := [(2, .long x5), (0, .ref (a 43)), (1, .int v1), (4, .int v4)]) hx hb dX9_number_56 rfl hl (by decide) rfl (fun ls hl => ?_)
      obtain ⟨x6, ex6, h⟩ := g_pin h
      refine lv_iinc (v := x6) (lv' := [(4, .int x6), (2, .long x5), (0, .ref (a 43)), (1, .int v1)]) hx hb dX9_number_57 hl (k := 3) rfl (by rw [ex6]; rfl) (by decide) rfl (fun ls hl => ?_)
      refine lv_goto (tgt := 32) hx hb dX9_number_60 (by decide) ?_
      exact ih v1 x5 x6 S h _ _ _ hW hS (lv_sub hl [2, 3, 1, 0] rfl)
set_option maxHeartbeats 4000000 in
set_option maxRecDepth 100000 in
theorem c_X9_number (l : Launch) (D : va_G) (a : Nat → Nat) (cs : zx_C) (fu : Nat) (p0 : Int32)  (S : St) (r9 : Int64) (S9 : St) (h : f_X9_number fu p0 S = some (r9, S9)) : Met l yX9_number (Cond.code yX9_number cX9_number 5 (some (.long)) :: zx_tb) ({ frames := 1, cells := 0, slots := 0, locals := 22 }) (zx_P D a cs [.ref (a 43), .int p0] S) (zx_Ql D a cs r9 S9) 0 0 (zx_A a) := by
  refine zx_met (own := RX9) (by decide) (Nat.le_of_ble_eq_true rfl) rfl ?_
  intro p e s m below meth c ls F hr hW hS hl
  have hl : lv_has ls 5 [(0, .ref (a 43)), (1, .int p0)] := hl
  obtain ⟨⟨hx, hb, hml, hown, hts⟩, hlk, hK, hJ, hN⟩ := id F
  unfold f_X9_number at h
  refine lv_aload_n hx hb dX9_number_0 rfl (lv_at hl 0 rfl) ?_
  refine zx_get (C := RX9) (T := TX9) (N := 35) F hW wu_X9 (by decide) zx_E43 rfl 27 (by decide) wf_X9_173 rfl dX9_number_1 ?_
  refine lv_iload_n hx hb dX9_number_4 rfl (lv_at hl 1 rfl) ?_
  refine lv_iadd hx hb dX9_number_5 ?_
  refine lv_aload_n hx hb dX9_number_6 rfl (lv_at hl 0 rfl) ?_
  refine zx_get (C := RX9) (T := TX9) (N := 35) F hW wu_X9 (by decide) zx_E43 rfl 1 (by decide) wf_X9_70 rfl dX9_number_7 ?_
  refine lv_icmp_le (tgt := 27) hx hb dX9_number_10 (by decide) (fun c1 => ?_) (fun c1 => ?_)
  · have h := g_t c1 h
    refine lv_lconst (v := 0) hx hb dX9_number_27 (by decide) ?_
    refine lv_lstore_n (lv' := [(2, .long (0 : Int64)), (0, .ref (a 43)), (1, .int p0)]) hx hb dX9_number_28 rfl hl (by decide) rfl (fun ls hl => ?_)
    refine lv_iconst (v := 0) hx hb dX9_number_29 (by decide) ?_
    refine lv_istore (lv' := [(4, .int (0 : Int32)), (2, .long (0 : Int64)), (0, .ref (a 43)), (1, .int p0)]) hx hb dX9_number_30 hl (by decide) rfl (fun ls hl => ?_)
    exact k_X9_number_L32  F hr   fu p0 (0 : Int64) (0 : Int32) S h _ _ _ hW hS (lv_sub hl [2, 3, 1, 0] rfl)
  · have h := g_f c1 h
    refine lv_aload_n hx hb dX9_number_13 rfl (lv_at hl 0 rfl) ?_
    refine lv_iconst (v := 1) hx hb dX9_number_14 (by decide) ?_
    refine lv_aload_n hx hb dX9_number_15 rfl (lv_at hl 0 rfl) ?_
    refine zx_get (C := RX9) (T := TX9) (N := 35) F hW wu_X9 (by decide) zx_E43 rfl 1 (by decide) wf_X9_70 rfl dX9_number_16 ?_
    obtain ⟨r7, S8, h9, h⟩ := g_bd h
    refine zx_ci (zx_runV (q := (RX9, TX9, 35)) (As := [.int (1 : Int32), .int (S 43 1)]) (rest := []) F hW (c_X9_fails l D a cs (1 : Int32) (S 43 1)  S r7 S8 h9) Y_X9_fails wi_X9_fails ws_X9_fails wm_X9_176 ⟨rfl, rfl, Nat.le_of_ble_eq_true rfl, Nat.le_of_ble_eq_true rfl, Nat.le_of_ble_eq_true rfl, Nat.le_of_ble_eq_true rfl⟩ (by decide) zx_E43 rfl rfl hl.1 rfl (Nat.le_of_ble_eq_true rfl) dX9_number_19) hS (fun H locs hW hS => ?_)
    refine lv_istore_n (lv' := [(2, .int r7), (0, .ref (a 43)), (1, .int p0)]) hx hb dX9_number_22 rfl hl (by decide) rfl (fun ls hl => ?_)
    refine lv_ldc2 (v := -1) hx hb hown (hts _ wl_X9_179) dX9_number_23 ?_
    exact zx_rl F hr hW hS h dX9_number_26

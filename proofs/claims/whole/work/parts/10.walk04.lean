theorem Y_X6_mostLacking : zx_Y yX6_mostLacking cX6_mostLacking 6 (some (.int)) 2 := ⟨wc_X6_mostLacking, wn_X6, by decide, by decide, by decide +kernel⟩
set_option maxHeartbeats 4000000 in
set_option maxRecDepth 100000 in
theorem k_X6_mostLacking_L54 {l : Launch} {D : va_G} {a : Nat → Nat} {cs : zx_C} {p : Program} {e : Env} {s : State} {m : MethodId} {below : List Frame} {meth : Method} {c : Code} {fu : Nat} {k : Nat} {p1 : Int32} (hk : zx_tab k = true) (F : zx_F D a cs p m c cX6_mostLacking 6 s ([.ref (a k), .ref (a 6), .int p1] : List Value).toArray RX6 meth) (hr : meth.sig.returnType = (some (.int))) {r9 : Int32} {S9 : St} {K8 : Int32 → Int32 → Int32 → Int32 → St → Option (Int32 × St)} (hK8 : ∀ (v2 : Int32) (v3 : Int32) (v4 : Int32) (v5 : Int32) (S : St), K8 v2 v3 v4 v5 S = some (r9, S9) → ∀ (H : Heap) (locs : List Loc) (ls : Array Slot), zx_W D a cs S H → va_S (zx_A a) s.heap H locs → lv_has ls 6 [(0, .ref (a k)), (1, .ref (a 6)), (2, .int v2), (3, .int v3), (4, .int v4), (5, .int v5)] → W p l e ({ frames := 2, cells := 0, slots := 0, locals := 43 }) s m ([.ref (a k), .ref (a 6), .int p1] : List Value).toArray below meth c H locs 0 0 (MQ below (zx_Qi D a cs r9 S9) ([.ref (a k), .ref (a 6), .int p1] : List Value).toArray s 0 0 (zx_A a)) (F0 m 8 ls []))  (v2 : Int32) (v3 : Int32) (v4 : Int32) (v5 : Int32) (S : St) (h : f_X6_mostLacking_L54 fu k p1 K8  v2 v3 v4 v5 S = some (r9, S9)) (H : Heap) (locs : List Loc) (ls : Array Slot) (hW : zx_W D a cs S H) (hS : va_S (zx_A a) s.heap H locs) (hl : lv_has ls 6 [(0, .ref (a k)), (1, .ref (a 6)), (2, .int v2), (3, .int v3), (4, .int v4), (5, .int v5)]) : W p l e ({ frames := 2, cells := 0, slots := 0, locals := 43 }) s m ([.ref (a k), .ref (a 6), .int p1] : List Value).toArray below meth c H locs 0 0 (MQ below (zx_Qi D a cs r9 S9) ([.ref (a k), .ref (a 6), .int p1] : List Value).toArray s 0 0 (zx_A a)) (F0 m 54 ls []) := by
  obtain ⟨⟨hx, hb, hml, hown, hts⟩, hlk, hK, hJ, hN⟩ := id F
  unfold f_X6_mostLacking_L54 at h
  obtain ⟨x4, ex4, h⟩ := g_pin h
  refine lv_iinc (v := x4) (lv' := [(5, .int x4), (0, .ref (a k)), (1, .ref (a 6)), (2, .int v2), (3, .int v3), (4, .int v4)]) hx hb dX6_mostLacking_54 hl (k := 5) rfl (by rw [ex4]; rfl) (by decide) rfl (fun ls hl => ?_)
  refine lv_goto (tgt := 8) hx hb dX6_mostLacking_57 (by decide) ?_
  exact hK8 v2 v3 v4 x4 S h _ _ _ hW hS (lv_sub hl [1, 2, 3, 4, 5, 0] rfl)
set_option maxHeartbeats 4000000 in
set_option maxRecDepth 100000 in
theorem k_X6_mostLacking_L41 {l : Launch} {D : va_G} {a : Nat → Nat} {cs : zx_C} {p : Program} {e : Env} {s : State} {m : MethodId} {below : List Frame} {meth : Method} {c : Code} {fu : Nat} {k : Nat} {p1 : Int32} (hk : zx_tab k = true) (F : zx_F D a cs p m c cX6_mostLacking 6 s ([.ref (a k), .ref (a 6), .int p1] : List Value).toArray RX6 meth) (hr : meth.sig.returnType = (some (.int))) {r9 : Int32} {S9 : St} {K8 : Int32 → Int32 → Int32 → Int32 → St → Option (Int32 × St)} (hK8 : ∀ (v2 : Int32) (v3 : Int32) (v4 : Int32) (v5 : Int32) (S : St), K8 v2 v3 v4 v5 S = some (r9, S9) → ∀ (H : Heap) (locs : List Loc) (ls : Array Slot), zx_W D a cs S H → va_S (zx_A a) s.heap H locs → lv_has ls 6 [(0, .ref (a k)), (1, .ref (a 6)), (2, .int v2), (3, .int v3), (4, .int v4), (5, .int v5)] → W p l e ({ frames := 2, cells := 0, slots := 0, locals := 43 }) s m ([.ref (a k), .ref (a 6), .int p1] : List Value).toArray below meth c H locs 0 0 (MQ below (zx_Qi D a cs r9 S9) ([.ref (a k), .ref (a 6), .int p1] : List Value).toArray s 0 0 (zx_A a)) (F0 m 8 ls []))  (v2 : Int32) (v5 : Int32) (S : St) (h : f_X6_mostLacking_L41 fu k p1 K8  v2 v5 S = some (r9, S9)) (H : Heap) (locs : List Loc) (ls : Array Slot) (hW : zx_W D a cs S H) (hS : va_S (zx_A a) s.heap H locs) (hl : lv_has ls 6 [(0, .ref (a k)), (1, .ref (a 6)), (2, .int v2), (5, .int v5)]) : W p l e ({ frames := 2, cells := 0, slots := 0, locals := 43 }) s m ([.ref (a k), .ref (a 6), .int p1] : List Value).toArray below meth c H locs 0 0 (MQ below (zx_Qi D a cs r9 S9) ([.ref (a k), .ref (a 6), .int p1] : List Value).toArray s 0 0 (zx_A a)) (F0 m 41 ls []) := by
  obtain ⟨⟨hx, hb, hml, hown, hts⟩, hlk, hK, hJ, hN⟩ := id F
  unfold f_X6_mostLacking_L41 at h
  refine lv_iload hx hb dX6_mostLacking_41 (lv_at hl 3 rfl) ?_
  refine lv_istore_n (lv' := [(3, .int v5), (0, .ref (a k)), (1, .ref (a 6)), (2, .int v2), (5, .int v5)]) hx hb dX6_mostLacking_43 rfl hl (by decide) rfl (fun ls hl => ?_)
  refine lv_aload_n hx hb dX6_mostLacking_44 rfl (lv_at hl 1 rfl) ?_
  refine lv_iload hx hb dX6_mostLacking_45 (lv_at hl 4 rfl) ?_
  refine lv_aload_n hx hb dX6_mostLacking_47 rfl (lv_at hl 2 rfl) ?_
  refine lv_iload_n hx hb dX6_mostLacking_48 rfl (lv_at hl 3 rfl) ?_
  obtain ⟨r6, S7, h8, h⟩ := g_bd h
  refine zx_ci (zx_runV (q := (RX6, TX6, 2)) (As := [.int v5, .ref (a 6), .int v2]) (rest := []) F hW (c_X6_lack l D a cs k v5 v2 hk S r6 S7 h8) Y_X6_lack wi_X6_lack ws_X6_lack wm_X6_54 ⟨rfl, rfl, Nat.le_of_ble_eq_true rfl, Nat.le_of_ble_eq_true rfl, Nat.le_of_ble_eq_true rfl, Nat.le_of_ble_eq_true rfl⟩ (zx_tab_l hk).1 (zx_tab_E hk) rfl rfl hl.1 rfl (Nat.le_of_ble_eq_true rfl) dX6_mostLacking_49) hS (fun H locs hW hS => ?_)
  refine lv_istore (lv' := [(4, .int r6), (3, .int v5), (0, .ref (a k)), (1, .ref (a 6)), (2, .int v2), (5, .int v5)]) hx hb dX6_mostLacking_52 hl (by decide) rfl (fun ls hl => ?_)
  exact k_X6_mostLacking_L54 hk F hr hK8  v2 v5 r6 v5 S7 h _ _ _ hW hS (lv_sub hl [2, 3, 4, 1, 0, 5] rfl)
set_option maxHeartbeats 4000000 in
set_option maxRecDepth 100000 in
theorem k_X6_mostLacking_L8 {l : Launch} {D : va_G} {a : Nat → Nat} {cs : zx_C} {p : Program} {e : Env} {s : State} {m : MethodId} {below : List Frame} {meth : Method} {c : Code} {fu : Nat} {k : Nat} {p1 : Int32} (hk : zx_tab k = true) (F : zx_F D a cs p m c cX6_mostLacking 6 s ([.ref (a k), .ref (a 6), .int p1] : List Value).toArray RX6 meth) (hr : meth.sig.returnType = (some (.int))) {r9 : Int32} {S9 : St}    : ∀ (n : Nat) (v2 : Int32) (v3 : Int32) (v4 : Int32) (v5 : Int32) (S : St), f_X6_mostLacking_L8 fu k p1   n v2 v3 v4 v5 S = some (r9, S9) → ∀ (H : Heap) (locs : List Loc) (ls : Array Slot), zx_W D a cs S H → va_S (zx_A a) s.heap H locs → lv_has ls 6 [(0, .ref (a k)), (1, .ref (a 6)), (2, .int v2), (3, .int v3), (4, .int v4), (5, .int v5)] → W p l e ({ frames := 2, cells := 0, slots := 0, locals := 43 }) s m ([.ref (a k), .ref (a 6), .int p1] : List Value).toArray below meth c H locs 0 0 (MQ below (zx_Qi D a cs r9 S9) ([.ref (a k), .ref (a 6), .int p1] : List Value).toArray s 0 0 (zx_A a)) (F0 m 8 ls []) := by
  obtain ⟨⟨hx, hb, hml, hown, hts⟩, hlk, hK, hJ, hN⟩ := id F
  intro n
  induction n with
  | zero =>
    intro v2 v3 v4 v5 S h
    exact absurd h (fun q => by cases q)
  | succ n ih =>
    intro v2 v3 v4 v5 S h H locs ls hW hS hl
    rw [f_X6_mostLacking_L8_s] at h
    refine lv_iload hx hb dX6_mostLacking_8 (lv_at hl 5 rfl) ?_
    refine lv_sipush (v := 256) hx hb dX6_mostLacking_10 (by decide) ?_
    refine lv_icmp_ge (tgt := 60) hx hb dX6_mostLacking_13 (by decide) (fun c1 => ?_) (fun c1 => ?_)
    · have h := g_t c1 h
      refine lv_iload_n hx hb dX6_mostLacking_60 rfl (lv_at hl 3 rfl) ?_
      exact zx_ri F hr hW hS h dX6_mostLacking_61
    · have h := g_f c1 h
      refine lv_aload_n hx hb dX6_mostLacking_16 rfl (lv_at hl 1 rfl) ?_
      refine lv_iload hx hb dX6_mostLacking_17 (lv_at hl 5 rfl) ?_
      obtain ⟨c2, h⟩ := g_no h
      refine zx_iald (n := 256) F hW (by decide) zx_E6 c2 dX6_mostLacking_19 ?_
      refine lv_if_le (tgt := 54) hx hb dX6_mostLacking_20 (by decide) (fun c3 => ?_) (fun c3 => ?_)
      · have h := g_t c3 h
        exact k_X6_mostLacking_L54 hk F hr ih  v2 v3 v4 v5 S h _ _ _ hW hS (lv_sub hl [0, 1, 2, 3, 4, 5] rfl)
      · have h := g_f c3 h
        refine lv_iload_n hx hb dX6_mostLacking_23 rfl (lv_at hl 3 rfl) ?_
        refine lv_iconst (v := -1) hx hb dX6_mostLacking_24 (by decide) ?_
        refine lv_icmp_eq (tgt := 41) hx hb dX6_mostLacking_25 (by decide) (fun c5 => ?_) (fun c5 => ?_)
        · have h := g_t c5 h
          exact k_X6_mostLacking_L41 hk F hr ih  v2 v5 S h _ _ _ hW hS (lv_sub hl [0, 1, 2, 5] rfl)
        · have h := g_f c5 h
          refine lv_aload_n hx hb dX6_mostLacking_28 rfl (lv_at hl 0 rfl) ?_
          refine lv_iload hx hb dX6_mostLacking_29 (lv_at hl 5 rfl) ?_
          refine lv_aload_n hx hb dX6_mostLacking_31 rfl (lv_at hl 1 rfl) ?_
          refine lv_iload_n hx hb dX6_mostLacking_32 rfl (lv_at hl 2 rfl) ?_
          obtain ⟨r9, S10, h11, h⟩ := g_bd h
          refine zx_ci (zx_runV (q := (RX6, TX6, 2)) (As := [.int v5, .ref (a 6), .int v2]) (rest := []) F hW (c_X6_lack l D a cs k v5 v2 hk S r9 S10 h11) Y_X6_lack wi_X6_lack ws_X6_lack wm_X6_54 ⟨rfl, rfl, Nat.le_of_ble_eq_true rfl, Nat.le_of_ble_eq_true rfl, Nat.le_of_ble_eq_true rfl, Nat.le_of_ble_eq_true rfl⟩ (zx_tab_l hk).1 (zx_tab_E hk) rfl rfl hl.1 rfl (Nat.le_of_ble_eq_true rfl) dX6_mostLacking_33) hS (fun H locs hW hS => ?_)
          refine lv_iload hx hb dX6_mostLacking_36 (lv_at hl 4 rfl) ?_
          refine lv_icmp_le (tgt := 54) hx hb dX6_mostLacking_38 (by decide) (fun c12 => ?_) (fun c12 => ?_)
          · have h := g_t c12 h
            exact k_X6_mostLacking_L54 hk F hr ih  v2 v3 v4 v5 S10 h _ _ _ hW hS (lv_sub hl [0, 1, 2, 3, 4, 5] rfl)
          · have h := g_f c12 h
            exact k_X6_mostLacking_L41 hk F hr ih  v2 v5 S10 h _ _ _ hW hS (lv_sub hl [0, 1, 2, 5] rfl)
set_option maxHeartbeats 4000000 in
set_option maxRecDepth 100000 in
theorem c_X6_mostLacking (l : Launch) (D : va_G) (a : Nat → Nat) (cs : zx_C) (fu : Nat) (k : Nat) (p1 : Int32) (hk : zx_tab k = true) (S : St) (r9 : Int32) (S9 : St) (h : f_X6_mostLacking fu k p1 S = some (r9, S9)) : Met l yX6_mostLacking (Cond.code yX6_mostLacking cX6_mostLacking 6 (some (.int)) :: zx_tb) ({ frames := 2, cells := 0, slots := 0, locals := 43 }) (zx_P D a cs [.ref (a k), .ref (a 6), .int p1] S) (zx_Qi D a cs r9 S9) 0 0 (zx_A a) := by
  refine zx_met (own := RX6) (by decide) (Nat.le_of_ble_eq_true rfl) rfl ?_
  intro p e s m below meth c ls F hr hW hS hl
  have hl : lv_has ls 6 [(0, .ref (a k)), (1, .ref (a 6)), (2, .int p1)] := hl
  obtain ⟨⟨hx, hb, hml, hown, hts⟩, hlk, hK, hJ, hN⟩ := id F
  unfold f_X6_mostLacking at h
  refine lv_iconst (v := -1) hx hb dX6_mostLacking_0 (by decide) ?_
  refine lv_istore_n (lv' := [(3, .int (-1 : Int32)), (0, .ref (a k)), (1, .ref (a 6)), (2, .int p1)]) hx hb dX6_mostLacking_1 rfl hl (by decide) rfl (fun ls hl => ?_)
  refine lv_iconst (v := 0) hx hb dX6_mostLacking_2 (by decide) ?_
  refine lv_istore (lv' := [(4, .int (0 : Int32)), (3, .int (-1 : Int32)), (0, .ref (a k)), (1, .ref (a 6)), (2, .int p1)]) hx hb dX6_mostLacking_3 hl (by decide) rfl (fun ls hl => ?_)
  refine lv_iconst (v := 0) hx hb dX6_mostLacking_5 (by decide) ?_
  refine lv_istore (lv' := [(5, .int (0 : Int32)), (4, .int (0 : Int32)), (3, .int (-1 : Int32)), (0, .ref (a k)), (1, .ref (a 6)), (2, .int p1)]) hx hb dX6_mostLacking_6 hl (by decide) rfl (fun ls hl => ?_)
  exact k_X6_mostLacking_L8 hk F hr   fu p1 (-1 : Int32) (0 : Int32) (0 : Int32) S h _ _ _ hW hS (lv_sub hl [3, 4, 5, 2, 1, 0] rfl)
theorem Y_X6_fit : zx_Y yX6_fit cX6_fit 6 none 3 := ⟨wc_X6_fit, wn_X6, by decide, by decide, by decide +kernel⟩
set_option maxHeartbeats 4000000 in
set_option maxRecDepth 100000 in
theorem k_X6_fit_L110 {l : Launch} {D : va_G} {a : Nat → Nat} {cs : zx_C} {p : Program} {e : Env} {s : State} {m : MethodId} {below : List Frame} {meth : Method} {c : Code} {fu : Nat} {k : Nat} {p1 : Int32} {p2 : Int32} (hk : zx_tab k = true) (F : zx_F D a cs p m c cX6_fit 6 s ([.ref (a k), .ref (a 6), .int p1, .int p2] : List Value).toArray RX6 meth) (hr : meth.sig.returnType = none) {r9 : Int32} {S9 : St}    : ∀ (n : Nat) (v2 : Int32) (v5 : Int32) (S : St), f_X6_fit_L110 fu k p1 p2   n v2 v5 S = some (r9, S9) → ∀ (H : Heap) (locs : List Loc) (ls : Array Slot), zx_W D a cs S H → va_S (zx_A a) s.heap H locs → lv_has ls 6 [(0, .ref (a k)), (1, .ref (a 6)), (2, .int v2), (5, .int v5)] → W p l e ({ frames := 3, cells := 0, slots := 0, locals := 68 }) s m ([.ref (a k), .ref (a 6), .int p1, .int p2] : List Value).toArray below meth c H locs 0 0 (MQ below (zx_Qv D a cs S9) ([.ref (a k), .ref (a 6), .int p1, .int p2] : List Value).toArray s 0 0 (zx_A a)) (F0 m 110 ls []) := by
  obtain ⟨⟨hx, hb, hml, hown, hts⟩, hlk, hK, hJ, hN⟩ := id F
  intro n
  induction n with
  | zero =>
    intro v2 v5 S h
    exact absurd h (fun q => by cases q)
  | succ n ih =>
    intro v2 v5 S h H locs ls hW hS hl
    rw [f_X6_fit_L110_s] at h
    refine lv_iload hx hb dX6_fit_110 (lv_at hl 3 rfl) ?_
    refine lv_if_le (tgt := 132) hx hb dX6_fit_112 (by decide) (fun c14 => ?_) (fun c14 => ?_)
    · have h := g_t c14 h
      exact zx_rv F hr hW hS h dX6_fit_132
    · have h := g_f c14 h
      refine lv_aload_n hx hb dX6_fit_115 rfl (lv_at hl 0 rfl) ?_
      refine lv_aload_n hx hb dX6_fit_116 rfl (lv_at hl 0 rfl) ?_
      refine lv_aload_n hx hb dX6_fit_117 rfl (lv_at hl 1 rfl) ?_
      refine lv_iload_n hx hb dX6_fit_118 rfl (lv_at hl 2 rfl) ?_
      obtain ⟨r15, S16, h17, h⟩ := g_bd h
      refine zx_ci (zx_runV (q := (RX6, TX6, 2)) (As := [.ref (a 6), .int v2]) (rest := [.ref (a k)]) F hW (c_X6_leastLacking l D a cs fu k v2 hk S r15 S16 h17) Y_X6_leastLacking wi_X6_leastLacking ws_X6_leastLacking wm_X6_51 ⟨rfl, rfl, Nat.le_of_ble_eq_true rfl, Nat.le_of_ble_eq_true rfl, Nat.le_of_ble_eq_true rfl, Nat.le_of_ble_eq_true rfl⟩ (zx_tab_l hk).1 (zx_tab_E hk) rfl rfl hl.1 rfl (Nat.le_of_ble_eq_true rfl) dX6_fit_119) hS (fun H locs hW hS => ?_)
      refine lv_iconst (v := -1) hx hb dX6_fit_122 (by decide) ?_
      obtain ⟨r18, S19, h20, h⟩ := g_bd h
      refine zx_cv (zx_runV (q := (RX6, TX6, 2)) (As := [.int r15, .int (-1 : Int32)]) (rest := []) F hW (c_X6_change l D a cs k r15 (-1 : Int32) hk S16 r18 S19 h20) Y_X6_change wi_X6_change ws_X6_change wm_X6_47 ⟨rfl, rfl, Nat.le_of_ble_eq_true rfl, Nat.le_of_ble_eq_true rfl, Nat.le_of_ble_eq_true rfl, Nat.le_of_ble_eq_true rfl⟩ (zx_tab_l hk).1 (zx_tab_E hk) rfl rfl hl.1 rfl (Nat.le_of_ble_eq_true rfl) dX6_fit_123) hS (fun H locs hW hS => ?_)
      obtain ⟨x21, ex21, h⟩ := g_pin h
      refine lv_iinc (v := x21) (lv' := [(5, .int x21), (0, .ref (a k)), (1, .ref (a 6)), (2, .int v2)]) hx hb dX6_fit_126 hl (k := 3) rfl (by rw [ex21]; rfl) (by decide) rfl (fun ls hl => ?_)
      refine lv_goto (tgt := 110) hx hb dX6_fit_129 (by decide) ?_
      exact ih v2 x21 S19 h _ _ _ hW hS (lv_sub hl [1, 2, 3, 0] rfl)
set_option maxHeartbeats 4000000 in
set_option maxRecDepth 100000 in
theorem k_X6_fit_L79 {l : Launch} {D : va_G} {a : Nat → Nat} {cs : zx_C} {p : Program} {e : Env} {s : State} {m : MethodId} {below : List Frame} {meth : Method} {c : Code} {fu : Nat} {k : Nat} {p1 : Int32} {p2 : Int32} (hk : zx_tab k = true) (F : zx_F D a cs p m c cX6_fit 6 s ([.ref (a k), .ref (a 6), .int p1, .int p2] : List Value).toArray RX6 meth) (hr : meth.sig.returnType = none) {r9 : Int32} {S9 : St}    : ∀ (n : Nat) (v2 : Int32) (v4 : Int32) (v5 : Int32) (S : St), f_X6_fit_L79 fu k p1 p2   n v2 v4 v5 S = some (r9, S9) → ∀ (H : Heap) (locs : List Loc) (ls : Array Slot), zx_W D a cs S H → va_S (zx_A a) s.heap H locs → lv_has ls 6 [(0, .ref (a k)), (1, .ref (a 6)), (2, .int v2), (4, .int v4), (5, .int v5)] → W p l e ({ frames := 3, cells := 0, slots := 0, locals := 68 }) s m ([.ref (a k), .ref (a 6), .int p1, .int p2] : List Value).toArray below meth c H locs 0 0 (MQ below (zx_Qv D a cs S9) ([.ref (a k), .ref (a 6), .int p1, .int p2] : List Value).toArray s 0 0 (zx_A a)) (F0 m 79 ls []) := by
  obtain ⟨⟨hx, hb, hml, hown, hts⟩, hlk, hK, hJ, hN⟩ := id F
  intro n
  induction n with
  | zero =>
    intro v2 v4 v5 S h
    exact absurd h (fun q => by cases q)
  | succ n ih =>
    intro v2 v4 v5 S h H locs ls hW hS hl
    rw [f_X6_fit_L79_s] at h
    refine lv_iload hx hb dX6_fit_79 (lv_at hl 4 rfl) ?_
    refine lv_if_le (tgt := 101) hx hb dX6_fit_81 (by decide) (fun c9 => ?_) (fun c9 => ?_)
    · have h := g_t c9 h
      refine lv_iload hx hb dX6_fit_101 (lv_at hl 3 rfl) ?_
      refine lv_aload_n hx hb dX6_fit_103 rfl (lv_at hl 0 rfl) ?_
      obtain ⟨r10, S11, h12, h⟩ := g_bd h
      refine zx_ci (zx_runV (q := (RX6, TX6, 2)) (As := []) (rest := [.int v4]) F hW (c_X6_places l D a cs k hk S r10 S11 h12) Y_X6_places wi_X6_places ws_X6_places wm_X6_33 ⟨rfl, rfl, Nat.le_of_ble_eq_true rfl, Nat.le_of_ble_eq_true rfl, Nat.le_of_ble_eq_true rfl, Nat.le_of_ble_eq_true rfl⟩ (zx_tab_l hk).1 (zx_tab_E hk) rfl rfl hl.1 rfl (Nat.le_of_ble_eq_true rfl) dX6_fit_104) hS (fun H locs hW hS => ?_)
      refine lv_isub hx hb dX6_fit_107 ?_
      obtain ⟨x13, ex13, h⟩ := g_pin h
      refine zx_nm ex13 ?_
      refine lv_istore (lv' := [(5, .int x13), (0, .ref (a k)), (1, .ref (a 6)), (2, .int v2), (4, .int v4)]) hx hb dX6_fit_108 hl (by decide) rfl (fun ls hl => ?_)
      exact k_X6_fit_L110 hk F hr   fu v2 x13 S11 h _ _ _ hW hS (lv_sub hl [1, 2, 3, 0] rfl)
    · have h := g_f c9 h
      refine lv_aload_n hx hb dX6_fit_84 rfl (lv_at hl 0 rfl) ?_
      refine lv_aload_n hx hb dX6_fit_85 rfl (lv_at hl 0 rfl) ?_
      refine lv_aload_n hx hb dX6_fit_86 rfl (lv_at hl 1 rfl) ?_
      refine lv_iload_n hx hb dX6_fit_87 rfl (lv_at hl 2 rfl) ?_
      obtain ⟨r22, S23, h24, h⟩ := g_bd h
      refine zx_ci (zx_runV (q := (RX6, TX6, 2)) (As := [.ref (a 6), .int v2]) (rest := [.ref (a k)]) F hW (c_X6_mostLacking l D a cs fu k v2 hk S r22 S23 h24) Y_X6_mostLacking wi_X6_mostLacking ws_X6_mostLacking wm_X6_43 ⟨rfl, rfl, Nat.le_of_ble_eq_true rfl, Nat.le_of_ble_eq_true rfl, Nat.le_of_ble_eq_true rfl, Nat.le_of_ble_eq_true rfl⟩ (zx_tab_l hk).1 (zx_tab_E hk) rfl rfl hl.1 rfl (Nat.le_of_ble_eq_true rfl) dX6_fit_88) hS (fun H locs hW hS => ?_)
      refine lv_iconst (v := 1) hx hb dX6_fit_91 (by decide) ?_
      obtain ⟨r25, S26, h27, h⟩ := g_bd h
      refine zx_cv (zx_runV (q := (RX6, TX6, 2)) (As := [.int r22, .int (1 : Int32)]) (rest := []) F hW (c_X6_change l D a cs k r22 (1 : Int32) hk S23 r25 S26 h27) Y_X6_change wi_X6_change ws_X6_change wm_X6_47 ⟨rfl, rfl, Nat.le_of_ble_eq_true rfl, Nat.le_of_ble_eq_true rfl, Nat.le_of_ble_eq_true rfl, Nat.le_of_ble_eq_true rfl⟩ (zx_tab_l hk).1 (zx_tab_E hk) rfl rfl hl.1 rfl (Nat.le_of_ble_eq_true rfl) dX6_fit_92) hS (fun H locs hW hS => ?_)
      obtain ⟨x28, ex28, h⟩ := g_pin h
      refine lv_iinc (v := x28) (lv' := [(5, .int x28), (0, .ref (a k)), (1, .ref (a 6)), (2, .int v2), (4, .int v4)]) hx hb dX6_fit_95 hl (k := 4) rfl (by rw [ex28]; rfl) (by decide) rfl (fun ls hl => ?_)
      refine lv_goto (tgt := 79) hx hb dX6_fit_98 (by decide) ?_
      exact ih v2 v4 x28 S26 h _ _ _ hW hS (lv_sub hl [1, 2, 3, 4, 0] rfl)
set_option maxHeartbeats 4000000 in
set_option maxRecDepth 100000 in
theorem k_X6_fit_L64 {l : Launch} {D : va_G} {a : Nat → Nat} {cs : zx_C} {p : Program} {e : Env} {s : State} {m : MethodId} {below : List Frame} {meth : Method} {c : Code} {fu : Nat} {k : Nat} {p1 : Int32} {p2 : Int32} (hk : zx_tab k = true) (F : zx_F D a cs p m c cX6_fit 6 s ([.ref (a k), .ref (a 6), .int p1, .int p2] : List Value).toArray RX6 meth) (hr : meth.sig.returnType = none) {r9 : Int32} {S9 : St} {K11 : Int32 → Int32 → Int32 → St → Option (Int32 × St)} (hK11 : ∀ (v2 : Int32) (v4 : Int32) (v5 : Int32) (S : St), K11 v2 v4 v5 S = some (r9, S9) → ∀ (H : Heap) (locs : List Loc) (ls : Array Slot), zx_W D a cs S H → va_S (zx_A a) s.heap H locs → lv_has ls 6 [(0, .ref (a k)), (1, .ref (a 6)), (2, .int v2), (4, .int v4), (5, .int v5)] → W p l e ({ frames := 3, cells := 0, slots := 0, locals := 68 }) s m ([.ref (a k), .ref (a 6), .int p1, .int p2] : List Value).toArray below meth c H locs 0 0 (MQ below (zx_Qv D a cs S9) ([.ref (a k), .ref (a 6), .int p1, .int p2] : List Value).toArray s 0 0 (zx_A a)) (F0 m 11 ls []))  (v2 : Int32) (v4 : Int32) (v5 : Int32) (S : St) (h : f_X6_fit_L64 fu k p1 p2 K11  v2 v4 v5 S = some (r9, S9)) (H : Heap) (locs : List Loc) (ls : Array Slot) (hW : zx_W D a cs S H) (hS : va_S (zx_A a) s.heap H locs) (hl : lv_has ls 6 [(0, .ref (a k)), (1, .ref (a 6)), (2, .int v2), (4, .int v4), (5, .int v5)]) : W p l e ({ frames := 3, cells := 0, slots := 0, locals := 68 }) s m ([.ref (a k), .ref (a 6), .int p1, .int p2] : List Value).toArray below meth c H locs 0 0 (MQ below (zx_Qv D a cs S9) ([.ref (a k), .ref (a 6), .int p1, .int p2] : List Value).toArray s 0 0 (zx_A a)) (F0 m 64 ls []) := by
  obtain ⟨⟨hx, hb, hml, hown, hts⟩, hlk, hK, hJ, hN⟩ := id F
  unfold f_X6_fit_L64 at h
  obtain ⟨x31, ex31, h⟩ := g_pin h
  refine lv_iinc (v := x31) (lv' := [(5, .int x31), (0, .ref (a k)), (1, .ref (a 6)), (2, .int v2), (4, .int v4)]) hx hb dX6_fit_64 hl (k := 4) rfl (by rw [ex31]; rfl) (by decide) rfl (fun ls hl => ?_)
  refine lv_goto (tgt := 11) hx hb dX6_fit_67 (by decide) ?_
  exact hK11 v2 v4 x31 S h _ _ _ hW hS (lv_sub hl [1, 2, 3, 4, 0] rfl)
set_option maxHeartbeats 4000000 in
set_option maxRecDepth 100000 in
theorem k_X6_fit_L11 {l : Launch} {D : va_G} {a : Nat → Nat} {cs : zx_C} {p : Program} {e : Env} {s : State} {m : MethodId} {below : List Frame} {meth : Method} {c : Code} {fu : Nat} {k : Nat} {p1 : Int32} {p2 : Int32} (hk : zx_tab k = true) (F : zx_F D a cs p m c cX6_fit 6 s ([.ref (a k), .ref (a 6), .int p1, .int p2] : List Value).toArray RX6 meth) (hr : meth.sig.returnType = none) {r9 : Int32} {S9 : St}    : ∀ (n : Nat) (v2 : Int32) (v4 : Int32) (v5 : Int32) (S : St), f_X6_fit_L11 fu k p1 p2   n v2 v4 v5 S = some (r9, S9) → ∀ (H : Heap) (locs : List Loc) (ls : Array Slot), zx_W D a cs S H → va_S (zx_A a) s.heap H locs → lv_has ls 6 [(0, .ref (a k)), (1, .ref (a 6)), (2, .int v2), (4, .int v4), (5, .int v5)] → W p l e ({ frames := 3, cells := 0, slots := 0, locals := 68 }) s m ([.ref (a k), .ref (a 6), .int p1, .int p2] : List Value).toArray below meth c H locs 0 0 (MQ below (zx_Qv D a cs S9) ([.ref (a k), .ref (a 6), .int p1, .int p2] : List Value).toArray s 0 0 (zx_A a)) (F0 m 11 ls []) := by
  obtain ⟨⟨hx, hb, hml, hown, hts⟩, hlk, hK, hJ, hN⟩ := id F
  intro n
  induction n with
  | zero =>
    intro v2 v4 v5 S h
    exact absurd h (fun q => by cases q)
  | succ n ih =>
    intro v2 v4 v5 S h H locs ls hW hS hl
    rw [f_X6_fit_L11_s] at h
    refine lv_iload hx hb dX6_fit_11 (lv_at hl 4 rfl) ?_
    refine lv_sipush (v := 256) hx hb dX6_fit_13 (by decide) ?_
    refine lv_icmp_ge (tgt := 70) hx hb dX6_fit_16 (by decide) (fun c4 => ?_) (fun c4 => ?_)
    · have h := g_t c4 h
      refine lv_aload_n hx hb dX6_fit_70 rfl (lv_at hl 0 rfl) ?_
      obtain ⟨r5, S6, h7, h⟩ := g_bd h
      refine zx_ci (zx_runV (q := (RX6, TX6, 2)) (As := []) (rest := []) F hW (c_X6_places l D a cs k hk S r5 S6 h7) Y_X6_places wi_X6_places ws_X6_places wm_X6_33 ⟨rfl, rfl, Nat.le_of_ble_eq_true rfl, Nat.le_of_ble_eq_true rfl, Nat.le_of_ble_eq_true rfl, Nat.le_of_ble_eq_true rfl⟩ (zx_tab_l hk).1 (zx_tab_E hk) rfl rfl hl.1 rfl (Nat.le_of_ble_eq_true rfl) dX6_fit_71) hS (fun H locs hW hS => ?_)
      refine lv_iload hx hb dX6_fit_74 (lv_at hl 3 rfl) ?_
      refine lv_isub hx hb dX6_fit_76 ?_
      obtain ⟨x8, ex8, h⟩ := g_pin h
      refine zx_nm ex8 ?_
      refine lv_istore (lv' := [(5, .int x8), (0, .ref (a k)), (1, .ref (a 6)), (2, .int v2), (4, .int v4)]) hx hb dX6_fit_77 hl (by decide) rfl (fun ls hl => ?_)
      exact k_X6_fit_L79 hk F hr   fu v2 v4 x8 S6 h _ _ _ hW hS (lv_sub hl [1, 2, 3, 4, 0] rfl)
    · have h := g_f c4 h
      refine lv_aload_n hx hb dX6_fit_19 rfl (lv_at hl 1 rfl) ?_
      refine lv_iload hx hb dX6_fit_20 (lv_at hl 4 rfl) ?_
      obtain ⟨c29, h⟩ := g_no h
      refine zx_iald (n := 256) F hW (by decide) zx_E6 c29 dX6_fit_22 ?_
      refine lv_if_le (tgt := 64) hx hb dX6_fit_23 (by decide) (fun c30 => ?_) (fun c30 => ?_)
      · have h := g_t c30 h
        exact k_X6_fit_L64 hk F hr ih  v2 v4 v5 S h _ _ _ hW hS (lv_sub hl [0, 1, 2, 3, 4] rfl)
      · have h := g_f c30 h
        refine lv_iload_n hx hb dX6_fit_26 rfl (lv_at hl 2 rfl) ?_
        refine lv_if_le (tgt := 64) hx hb dX6_fit_27 (by decide) (fun c32 => ?_) (fun c32 => ?_)
        · have h := g_t c32 h
          exact k_X6_fit_L64 hk F hr ih  v2 v4 v5 S h _ _ _ hW hS (lv_sub hl [0, 1, 2, 3, 4] rfl)
        · have h := g_f c32 h
          refine lv_aload_n hx hb dX6_fit_30 rfl (lv_at hl 0 rfl) ?_
          refine zx_get (C := RX6) (T := TX6) (N := 2) F hW wu_X6 (zx_tab_l hk).1 (zx_tab_E hk) rfl 0 (by decide) wf_X6_9 rfl dX6_fit_31 ?_
          refine lv_iload hx hb dX6_fit_34 (lv_at hl 4 rfl) ?_
          refine lv_iconst (v := 1) hx hb dX6_fit_36 (by decide) ?_
          refine lv_aload_n hx hb dX6_fit_37 rfl (lv_at hl 1 rfl) ?_
          refine lv_iload hx hb dX6_fit_38 (lv_at hl 4 rfl) ?_
          obtain ⟨c33, h⟩ := g_no h
          refine zx_iald (n := 256) F hW (by decide) zx_E6 c33 dX6_fit_40 ?_
          refine lv_aload_n hx hb dX6_fit_41 rfl (lv_at hl 0 rfl) ?_
          obtain ⟨r34, S35, h36, h⟩ := g_bd h
          refine zx_ci (zx_runV (q := (RX6, TX6, 2)) (As := []) (rest := [.int (S 6 v5.toNatClampNeg), .int (1 : Int32), .int v5, .ref (a (k + 1))]) F hW (c_X6_places l D a cs k hk S r34 S35 h36) Y_X6_places wi_X6_places ws_X6_places wm_X6_33 ⟨rfl, rfl, Nat.le_of_ble_eq_true rfl, Nat.le_of_ble_eq_true rfl, Nat.le_of_ble_eq_true rfl, Nat.le_of_ble_eq_true rfl⟩ (zx_tab_l hk).1 (zx_tab_E hk) rfl rfl hl.1 rfl (Nat.le_of_ble_eq_true rfl) dX6_fit_42) hS (fun H locs hW hS => ?_)
          refine lv_imul hx hb dX6_fit_45 ?_
          refine lv_iload_n hx hb dX6_fit_46 rfl (lv_at hl 2 rfl) ?_
          obtain ⟨c37, h⟩ := g_no h
          refine lv_idiv hx hb dX6_fit_47 c37 ?_
          refine zx_max F hl.1 wm_X6_37 ⟨Nat.le_of_ble_eq_true rfl, Nat.le_of_ble_eq_true rfl⟩ (Nat.le_of_ble_eq_true rfl) dX6_fit_48 ?_
          obtain ⟨c39, h⟩ := g_no h
          obtain ⟨S38, eS38, h⟩ := g_pin h
          refine zx_iast (n := 256) F hW hS (zx_tab_l hk).2 (fun f => (zx_tab_A hk)) c39 dX6_fit_51 (fun H locs hW hS => ?_)
          have hW : zx_W D a cs S38 H := by rw [eS38]; exact hW
          refine lv_iload hx hb dX6_fit_52 (lv_at hl 3 rfl) ?_
          refine lv_aload_n hx hb dX6_fit_54 rfl (lv_at hl 0 rfl) ?_
          refine zx_get (C := RX6) (T := TX6) (N := 2) F hW wu_X6 (zx_tab_l hk).1 (zx_tab_E hk) rfl 0 (by decide) wf_X6_9 rfl dX6_fit_55 ?_
          refine lv_iload hx hb dX6_fit_58 (lv_at hl 4 rfl) ?_
          obtain ⟨c40, h⟩ := g_no h
          refine zx_iald (n := 256) F hW (zx_tab_l hk).2 (zx_tab_A hk) c40 dX6_fit_60 ?_
          refine lv_iadd hx hb dX6_fit_61 ?_
          obtain ⟨x41, ex41, h⟩ := g_pin h
          refine zx_nm ex41 ?_
          refine lv_istore (lv' := [(4, .int x41), (0, .ref (a k)), (1, .ref (a 6)), (2, .int v2), (5, .int v5)]) hx hb dX6_fit_62 hl (by decide) rfl (fun ls hl => ?_)
          exact k_X6_fit_L64 hk F hr ih  v2 x41 v5 S38 h _ _ _ hW hS (lv_sub hl [1, 2, 3, 0, 4] rfl)
set_option maxHeartbeats 4000000 in
set_option maxRecDepth 100000 in
theorem c_X6_fit (l : Launch) (D : va_G) (a : Nat → Nat) (cs : zx_C) (fu : Nat) (k : Nat) (p1 : Int32) (p2 : Int32) (hk : zx_tab k = true) (S : St) (r9 : Int32) (S9 : St) (h : f_X6_fit fu k p1 p2 S = some (r9, S9)) : Met l yX6_fit (Cond.code yX6_fit cX6_fit 6 none :: zx_tb) ({ frames := 3, cells := 0, slots := 0, locals := 68 }) (zx_P D a cs [.ref (a k), .ref (a 6), .int p1, .int p2] S) (zx_Qv D a cs S9) 0 0 (zx_A a) := by
  refine zx_met (own := RX6) (by decide) (Nat.le_of_ble_eq_true rfl) rfl ?_
  intro p e s m below meth c ls F hr hW hS hl
  have hl : lv_has ls 6 [(0, .ref (a k)), (1, .ref (a 6)), (2, .int p1), (3, .int p2)] := hl
  obtain ⟨⟨hx, hb, hml, hown, hts⟩, hlk, hK, hJ, hN⟩ := id F
  unfold f_X6_fit at h
  refine lv_aload_n hx hb dX6_fit_0 rfl (lv_at hl 0 rfl) ?_
  refine lv_iload_n hx hb dX6_fit_1 rfl (lv_at hl 3 rfl) ?_
  obtain ⟨r1, S2, h3, h⟩ := g_bd h
  refine zx_cv (zx_runV (q := (RX6, TX6, 2)) (As := [.int p2]) (rest := []) F hW (c_X6_clear l D a cs fu k p2 hk S r1 S2 h3) Y_X6_clear wi_X6_clear ws_X6_clear wm_X6_29 ⟨rfl, rfl, Nat.le_of_ble_eq_true rfl, Nat.le_of_ble_eq_true rfl, Nat.le_of_ble_eq_true rfl, Nat.le_of_ble_eq_true rfl⟩ (zx_tab_l hk).1 (zx_tab_E hk) rfl rfl hl.1 rfl (Nat.le_of_ble_eq_true rfl) dX6_fit_2) hS (fun H locs hW hS => ?_)
  refine lv_iconst (v := 0) hx hb dX6_fit_5 (by decide) ?_
  refine lv_istore (lv' := [(4, .int (0 : Int32)), (0, .ref (a k)), (1, .ref (a 6)), (2, .int p1), (3, .int p2)]) hx hb dX6_fit_6 hl (by decide) rfl (fun ls hl => ?_)
  refine lv_iconst (v := 0) hx hb dX6_fit_8 (by decide) ?_
  refine lv_istore (lv' := [(5, .int (0 : Int32)), (4, .int (0 : Int32)), (0, .ref (a k)), (1, .ref (a 6)), (2, .int p1), (3, .int p2)]) hx hb dX6_fit_9 hl (by decide) rfl (fun ls hl => ?_)
  exact k_X6_fit_L11 hk F hr   fu p1 (0 : Int32) (0 : Int32) S2 h _ _ _ hW hS (lv_sub hl [2, 3, 4, 1, 0] rfl)
theorem Y_X6_isThere : zx_Y yX6_isThere cX6_isThere 1 (some (.boolean)) 0 := ⟨wc_X6_isThere, wn_X6, by decide, by decide, by decide +kernel⟩
set_option maxHeartbeats 4000000 in
set_option maxRecDepth 100000 in
theorem c_X6_isThere (l : Launch) (D : va_G) (a : Nat → Nat) (cs : zx_C) (k : Nat) (hk : zx_tab k = true) (S : St) (r9 : Int32) (S9 : St) (h : f_X6_isThere k S = some (r9, S9)) : Met l yX6_isThere (Cond.code yX6_isThere cX6_isThere 1 (some (.boolean)) :: zx_tb) ({ frames := 0, cells := 0, slots := 0, locals := 0 }) (zx_P D a cs [.ref (a k)] S) (zx_Qi D a cs r9 S9) 0 0 (zx_A a) := by
  refine zx_met (own := RX6) (by decide) (Nat.le_of_ble_eq_true rfl) rfl ?_
  intro p e s m below meth c ls F hr hW hS hl
  have hl : lv_has ls 1 [(0, .ref (a k))] := hl
  obtain ⟨⟨hx, hb, hml, hown, hts⟩, hlk, hK, hJ, hN⟩ := id F
  unfold f_X6_isThere at h
  refine lv_aload_n hx hb dX6_isThere_0 rfl (lv_at hl 0 rfl) ?_
  refine zx_get (C := RX6) (T := TX6) (N := 2) F hW wu_X6 (zx_tab_l hk).1 (zx_tab_E hk) rfl 1 (by decide) wf_X6_15 rfl dX6_isThere_1 ?_
  refine lv_if_le (tgt := 11) hx hb dX6_isThere_4 (by decide) (fun c1 => ?_) (fun c1 => ?_)
  · have h := g_t c1 h
    refine lv_iconst (v := 0) hx hb dX6_isThere_11 (by decide) ?_
    exact zx_rz F hr (by decide) hW hS h dX6_isThere_12
  · have h := g_f c1 h
    refine lv_iconst (v := 1) hx hb dX6_isThere_7 (by decide) ?_
    refine lv_goto (tgt := 12) hx hb dX6_isThere_8 (by decide) ?_
    exact zx_rz F hr (by decide) hW hS h dX6_isThere_12
theorem Y_X6_startOf : zx_Y yX6_startOf cX6_startOf 4 (some (.int)) 1 := ⟨wc_X6_startOf, wn_X6, by decide, by decide, by decide +kernel⟩
set_option maxHeartbeats 4000000 in
set_option maxRecDepth 100000 in
theorem k_X6_startOf_L4 {l : Launch} {D : va_G} {a : Nat → Nat} {cs : zx_C} {p : Program} {e : Env} {s : State} {m : MethodId} {below : List Frame} {meth : Method} {c : Code} {fu : Nat} {k : Nat} {p0 : Int32} (hk : zx_tab k = true) (F : zx_F D a cs p m c cX6_startOf 4 s ([.ref (a k), .int p0] : List Value).toArray RX6 meth) (hr : meth.sig.returnType = (some (.int))) {r9 : Int32} {S9 : St}    : ∀ (n : Nat) (v1 : Int32) (v2 : Int32) (v3 : Int32) (S : St), f_X6_startOf_L4 fu k p0   n v1 v2 v3 S = some (r9, S9) → ∀ (H : Heap) (locs : List Loc) (ls : Array Slot), zx_W D a cs S H → va_S (zx_A a) s.heap H locs → lv_has ls 4 [(0, .ref (a k)), (1, .int v1), (2, .int v2), (3, .int v3)] → W p l e ({ frames := 0, cells := 0, slots := 0, locals := 0 }) s m ([.ref (a k), .int p0] : List Value).toArray below meth c H locs 0 0 (MQ below (zx_Qi D a cs r9 S9) ([.ref (a k), .int p0] : List Value).toArray s 0 0 (zx_A a)) (F0 m 4 ls []) := by
  obtain ⟨⟨hx, hb, hml, hown, hts⟩, hlk, hK, hJ, hN⟩ := id F
  intro n
  induction n with
  | zero =>
    intro v1 v2 v3 S h
    exact absurd h (fun q => by cases q)
  | succ n ih =>
    intro v1 v2 v3 S h H locs ls hW hS hl
    rw [f_X6_startOf_L4_s] at h
    refine lv_iload_n hx hb dX6_startOf_4 rfl (lv_at hl 3 rfl) ?_
    refine lv_iload_n hx hb dX6_startOf_5 rfl (lv_at hl 1 rfl) ?_
    refine lv_icmp_ge (tgt := 31) hx hb dX6_startOf_6 (by decide) (fun c1 => ?_) (fun c1 => ?_)
    · have h := g_t c1 h
      refine lv_iload_n hx hb dX6_startOf_31 rfl (lv_at hl 2 rfl) ?_
      exact zx_ri F hr hW hS h dX6_startOf_32
    · have h := g_f c1 h
      refine lv_iload_n hx hb dX6_startOf_9 rfl (lv_at hl 3 rfl) ?_
      refine lv_sipush (v := 256) hx hb dX6_startOf_10 (by decide) ?_
      refine lv_icmp_ge (tgt := 31) hx hb dX6_startOf_13 (by decide) (fun c2 => ?_) (fun c2 => ?_)
      · have h := g_t c2 h
        refine lv_iload_n hx hb dX6_startOf_31 rfl (lv_at hl 2 rfl) ?_
        exact zx_ri F hr hW hS h dX6_startOf_32
      · have h := g_f c2 h
        refine lv_iload_n hx hb dX6_startOf_16 rfl (lv_at hl 2 rfl) ?_
        refine lv_aload_n hx hb dX6_startOf_17 rfl (lv_at hl 0 rfl) ?_
        refine zx_get (C := RX6) (T := TX6) (N := 2) F hW wu_X6 (zx_tab_l hk).1 (zx_tab_E hk) rfl 0 (by decide) wf_X6_9 rfl dX6_startOf_18 ?_
        refine lv_iload_n hx hb dX6_startOf_21 rfl (lv_at hl 3 rfl) ?_
        obtain ⟨c3, h⟩ := g_no h
        refine zx_iald (n := 256) F hW (zx_tab_l hk).2 (zx_tab_A hk) c3 dX6_startOf_22 ?_
        refine lv_iadd hx hb dX6_startOf_23 ?_
        obtain ⟨x4, ex4, h⟩ := g_pin h
        refine zx_nm ex4 ?_
        refine lv_istore_n (lv' := [(2, .int x4), (0, .ref (a k)), (1, .int v1), (3, .int v3)]) hx hb dX6_startOf_24 rfl hl (by decide) rfl (fun ls hl => ?_)
        obtain ⟨x5, ex5, h⟩ := g_pin h
        refine lv_iinc (v := x5) (lv' := [(3, .int x5), (2, .int x4), (0, .ref (a k)), (1, .int v1)]) hx hb dX6_startOf_25 hl (k := 3) rfl (by rw [ex5]; rfl) (by decide) rfl (fun ls hl => ?_)
        refine lv_goto (tgt := 4) hx hb dX6_startOf_28 (by decide) ?_
        exact ih v1 x4 x5 S h _ _ _ hW hS (lv_sub hl [2, 3, 1, 0] rfl)
set_option maxHeartbeats 4000000 in
set_option maxRecDepth 100000 in
theorem c_X6_startOf (l : Launch) (D : va_G) (a : Nat → Nat) (cs : zx_C) (fu : Nat) (k : Nat) (p0 : Int32) (hk : zx_tab k = true) (S : St) (r9 : Int32) (S9 : St) (h : f_X6_startOf fu k p0 S = some (r9, S9)) : Met l yX6_startOf (Cond.code yX6_startOf cX6_startOf 4 (some (.int)) :: zx_tb) ({ frames := 0, cells := 0, slots := 0, locals := 0 }) (zx_P D a cs [.ref (a k), .int p0] S) (zx_Qi D a cs r9 S9) 0 0 (zx_A a) := by
  refine zx_met (own := RX6) (by decide) (Nat.le_of_ble_eq_true rfl) rfl ?_
  intro p e s m below meth c ls F hr hW hS hl
  have hl : lv_has ls 4 [(0, .ref (a k)), (1, .int p0)] := hl
  obtain ⟨⟨hx, hb, hml, hown, hts⟩, hlk, hK, hJ, hN⟩ := id F
  unfold f_X6_startOf at h
  refine lv_iconst (v := 0) hx hb dX6_startOf_0 (by decide) ?_
  refine lv_istore_n (lv' := [(2, .int (0 : Int32)), (0, .ref (a k)), (1, .int p0)]) hx hb dX6_startOf_1 rfl hl (by decide) rfl (fun ls hl => ?_)
  refine lv_iconst (v := 0) hx hb dX6_startOf_2 (by decide) ?_
  refine lv_istore_n (lv' := [(3, .int (0 : Int32)), (2, .int (0 : Int32)), (0, .ref (a k)), (1, .int p0)]) hx hb dX6_startOf_3 rfl hl (by decide) rfl (fun ls hl => ?_)
  exact k_X6_startOf_L4 hk F hr   fu p0 (0 : Int32) (0 : Int32) S h _ _ _ hW hS (lv_sub hl [2, 3, 1, 0] rfl)
theorem Y_X7_copy : zx_Y yX7_copy cX7_copy 2 none 1 := ⟨wc_X7_copy, wn_X7, by decide, by decide, by decide +kernel⟩
set_option maxHeartbeats 4000000 in
set_option maxRecDepth 100000 in
theorem c_X7_copy (l : Launch) (D : va_G) (a : Nat → Nat) (cs : zx_C) (k : Nat) (k0 : Nat) (hk : zx_tal k = true) (hk0 : zx_tal k0 = true) (S : St) (r9 : Int32) (S9 : St) (h : f_X7_copy k k0 S = some (r9, S9)) : Met l yX7_copy (Cond.code yX7_copy cX7_copy 2 none :: zx_tb) ({ frames := 1, cells := 0, slots := 0, locals := 34 }) (zx_P D a cs [.ref (a k), .ref (a k0)] S) (zx_Qv D a cs S9) 0 0 (zx_A a) := by
  refine zx_met (own := RX7) (by decide) (Nat.le_of_ble_eq_true rfl) rfl ?_
  intro p e s m below meth c ls F hr hW hS hl
  have hl : lv_has ls 2 [(0, .ref (a k)), (1, .ref (a k0))] := hl
  obtain ⟨⟨hx, hb, hml, hown, hts⟩, hlk, hK, hJ, hN⟩ := id F
  unfold f_X7_copy at h
  refine lv_aload_n hx hb dX7_copy_0 rfl (lv_at hl 1 rfl) ?_
  refine zx_get (C := RX7) (T := TX7) (N := 1) F hW wu_X7 (zx_tal_l hk0).1 (zx_tal_E hk0) rfl 0 (by decide) wf_X7_11 rfl dX7_copy_1 ?_
  refine lv_iconst (v := 0) hx hb dX7_copy_4 (by decide) ?_
  refine lv_aload_n hx hb dX7_copy_5 rfl (lv_at hl 0 rfl) ?_
  refine zx_get (C := RX7) (T := TX7) (N := 1) F hW wu_X7 (zx_tal_l hk).1 (zx_tal_E hk) rfl 0 (by decide) wf_X7_11 rfl dX7_copy_6 ?_
  refine lv_iconst (v := 0) hx hb dX7_copy_9 (by decide) ?_
  refine lv_bipush (v := 6) hx hb dX7_copy_10 (by decide) ?_
  obtain ⟨S1, eS1, h⟩ := g_pin h
  refine zx_copy (n := 6) (t0 := 0) (ty := .int) F hW hS hl.1 wm_X7_34 rfl rfl (zx_tal_l hk0).2 (zx_tal_l hk).2 (fun f => (zx_tal_A hk0)) (fun f => (zx_tal_A hk)) (by decide) (by decide) (fun _ _ => rfl) ⟨Nat.le_of_ble_eq_true rfl, by decide⟩ (Nat.le_of_ble_eq_true rfl) dX7_copy_12 (fun H locs hW hS => ?_)
  have hW : zx_W D a cs S1 H := by rw [eS1]; exact hW
  exact zx_rv F hr hW hS h dX7_copy_15
theorem Y_X7_figure : zx_Y yX7_figure cX7_figure 2 (some (.int)) 1 := ⟨wc_X7_figure, wn_X7, by decide, by decide, by decide +kernel⟩
set_option maxHeartbeats 4000000 in
set_option maxRecDepth 100000 in
theorem c_X7_figure (l : Launch) (D : va_G) (a : Nat → Nat) (cs : zx_C) (k : Nat) (p0 : Int32) (hk : zx_tal k = true) (S : St) (r9 : Int32) (S9 : St) (h : f_X7_figure k p0 S = some (r9, S9)) : Met l yX7_figure (Cond.code yX7_figure cX7_figure 2 (some (.int)) :: zx_tb) ({ frames := 0, cells := 0, slots := 0, locals := 0 }) (zx_P D a cs [.ref (a k), .int p0] S) (zx_Qi D a cs r9 S9) 0 0 (zx_A a) := by
  refine zx_met (own := RX7) (by decide) (Nat.le_of_ble_eq_true rfl) rfl ?_
  intro p e s m below meth c ls F hr hW hS hl
  have hl : lv_has ls 2 [(0, .ref (a k)), (1, .int p0)] := hl
  obtain ⟨⟨hx, hb, hml, hown, hts⟩, hlk, hK, hJ, hN⟩ := id F
  unfold f_X7_figure at h
  refine lv_iload_n hx hb dX7_figure_0 rfl (lv_at hl 1 rfl) ?_
  refine lv_if_lt (tgt := 19) hx hb dX7_figure_1 (by decide) (fun c1 => ?_) (fun c1 => ?_)
  · have h := g_t c1 h
    refine lv_iconst (v := -1) hx hb dX7_figure_19 (by decide) ?_
    exact zx_ri F hr hW hS h dX7_figure_20
  · have h := g_f c1 h
    refine lv_iload_n hx hb dX7_figure_4 rfl (lv_at hl 1 rfl) ?_
    refine lv_bipush (v := 6) hx hb dX7_figure_5 (by decide) ?_
    refine lv_icmp_ge (tgt := 19) hx hb dX7_figure_7 (by decide) (fun c2 => ?_) (fun c2 => ?_)
    · have h := g_t c2 h
      refine lv_iconst (v := -1) hx hb dX7_figure_19 (by decide) ?_
      exact zx_ri F hr hW hS h dX7_figure_20
    · have h := g_f c2 h
      refine lv_aload_n hx hb dX7_figure_10 rfl (lv_at hl 0 rfl) ?_
      refine zx_get (C := RX7) (T := TX7) (N := 1) F hW wu_X7 (zx_tal_l hk).1 (zx_tal_E hk) rfl 0 (by decide) wf_X7_11 rfl dX7_figure_11 ?_
      refine lv_iload_n hx hb dX7_figure_14 rfl (lv_at hl 1 rfl) ?_
      obtain ⟨c3, h⟩ := g_no h
      refine zx_iald (n := 6) F hW (zx_tal_l hk).2 (zx_tal_A hk) c3 dX7_figure_15 ?_
      refine lv_goto (tgt := 20) hx hb dX7_figure_16 (by decide) ?_
      exact zx_ri F hr hW hS h dX7_figure_20
theorem Y_X8_isTableNumber : zx_Y yX8_isTableNumber cX8_isTableNumber 1 (some (.boolean)) 1 := ⟨wc_X8_isTableNumber, wn_X8, by decide, by decide, by decide +kernel⟩
set_option maxHeartbeats 4000000 in
set_option maxRecDepth 100000 in
theorem c_X8_isTableNumber (l : Launch) (D : va_G) (a : Nat → Nat) (cs : zx_C) (p0 : Int32)  (S : St) (r9 : Int32) (S9 : St) (h : f_X8_isTableNumber p0 S = some (r9, S9)) : Met l yX8_isTableNumber (Cond.code yX8_isTableNumber cX8_isTableNumber 1 (some (.boolean)) :: zx_tb) ({ frames := 0, cells := 0, slots := 0, locals := 0 }) (zx_P D a cs [.int p0] S) (zx_Qi D a cs r9 S9) 0 0 (zx_A a) := by
  refine zx_met (own := RX8) (by decide) (Nat.le_of_ble_eq_true rfl) rfl ?_
  intro p e s m below meth c ls F hr hW hS hl
  have hl : lv_has ls 1 [(0, .int p0)] := hl
  obtain ⟨⟨hx, hb, hml, hown, hts⟩, hlk, hK, hJ, hN⟩ := id F
  unfold f_X8_isTableNumber at h
  refine lv_iload_n hx hb dX8_isTableNumber_0 rfl (lv_at hl 0 rfl) ?_
  refine lv_if_lt (tgt := 14) hx hb dX8_isTableNumber_1 (by decide) (fun c1 => ?_) (fun c1 => ?_)
  · have h := g_t c1 h
    refine lv_iconst (v := 0) hx hb dX8_isTableNumber_14 (by decide) ?_
    exact zx_rz F hr (by decide) hW hS h dX8_isTableNumber_15
  · have h := g_f c1 h
    refine lv_iload_n hx hb dX8_isTableNumber_4 rfl (lv_at hl 0 rfl) ?_
    refine lv_bipush (v := 6) hx hb dX8_isTableNumber_5 (by decide) ?_
    refine lv_icmp_ge (tgt := 14) hx hb dX8_isTableNumber_7 (by decide) (fun c2 => ?_) (fun c2 => ?_)
    · have h := g_t c2 h
      refine lv_iconst (v := 0) hx hb dX8_isTableNumber_14 (by decide) ?_
      exact zx_rz F hr (by decide) hW hS h dX8_isTableNumber_15
    · have h := g_f c2 h
      refine lv_iconst (v := 1) hx hb dX8_isTableNumber_10 (by decide) ?_
      refine lv_goto (tgt := 15) hx hb dX8_isTableNumber_11 (by decide) ?_
      exact zx_rz F hr (by decide) hW hS h dX8_isTableNumber_15
theorem Y_X8_tableOrNull : zx_Y yX8_tableOrNull cX8_tableOrNull 3 (some (.object "ShareCoder$Table")) 1 := ⟨wc_X8_tableOrNull, wn_X8, by decide, by decide, by decide +kernel⟩
set_option maxHeartbeats 4000000 in
set_option maxRecDepth 100000 in
theorem c_X8_tableOrNull (l : Launch) (D : va_G) (a : Nat → Nat) (cs : zx_C) (p0 : Int32)  (S : St) (r9 : Int32) (S9 : St) (h : f_X8_tableOrNull p0 S = some (r9, S9)) : Met l yX8_tableOrNull (Cond.code yX8_tableOrNull cX8_tableOrNull 3 (some (.object "ShareCoder$Table")) :: zx_tb) ({ frames := 1, cells := 0, slots := 0, locals := 20 }) (zx_P D a cs [.ref (a 0), .int p0] S) (zx_Qa D a cs r9 S9) 0 0 (zx_A a) := by
  refine zx_met (own := RX8) (by decide) (Nat.le_of_ble_eq_true rfl) rfl ?_
  intro p e s m below meth c ls F hr hW hS hl
  have hl : lv_has ls 3 [(0, .ref (a 0)), (1, .int p0)] := hl
  obtain ⟨⟨hx, hb, hml, hown, hts⟩, hlk, hK, hJ, hN⟩ := id F
  unfold f_X8_tableOrNull at h
  refine lv_iload_n hx hb dX8_tableOrNull_0 rfl (lv_at hl 1 rfl) ?_
  obtain ⟨r1, S2, h3, h⟩ := g_bd h
  refine zx_ci (zx_runS (As := [.int p0]) (rest := []) F hW (c_X8_isTableNumber l D a cs p0  S r1 S2 h3) Y_X8_isTableNumber wt_X8_isTableNumber wm_X8_77 ⟨rfl, rfl, Nat.le_of_ble_eq_true rfl, Nat.le_of_ble_eq_true rfl, Nat.le_of_ble_eq_true rfl, Nat.le_of_ble_eq_true rfl⟩ rfl hl.1 rfl (Nat.le_of_ble_eq_true rfl) dX8_tableOrNull_1) hS (fun H locs hW hS => ?_)
  refine lv_if_ne (tgt := 9) hx hb dX8_tableOrNull_4 (by decide) (fun c4 => ?_) (fun c4 => ?_)
  · have h := g_f c4 h
    refine lv_aload_n hx hb dX8_tableOrNull_9 rfl (lv_at hl 0 rfl) ?_
    refine zx_get (C := RX8) (T := TX8) (N := 11) F hW wu_X8 (by decide) zx_E0 rfl 2 (by decide) wf_X8_21 rfl dX8_tableOrNull_10 ?_
    refine lv_iload_n hx hb dX8_tableOrNull_13 rfl (lv_at hl 1 rfl) ?_
    obtain ⟨c5, h⟩ := g_no h
    refine zx_aald F hW c5 dX8_tableOrNull_14 ?_
    obtain ⟨kt7, ekt7, h⟩ := g_pin h
    obtain ⟨hk6, h⟩ := g_ok h
    rw [zx_rfo_tab (by rw [← ekt7]; exact hk6), ← ekt7]
    refine lv_astore_n (lv' := [(2, .ref (a kt7)), (0, .ref (a 0)), (1, .int p0)]) hx hb dX8_tableOrNull_15 rfl hl (by decide) rfl (fun ls hl => ?_)
    refine lv_aload_n hx hb dX8_tableOrNull_16 rfl (lv_at hl 0 rfl) ?_
    obtain ⟨r8, S9, h10, h⟩ := g_bd h
    refine zx_ci (zx_runV (q := (RX6, TX6, 2)) (As := []) (rest := []) F hW (c_X6_isThere l D a cs kt7 hk6 S2 r8 S9 h10) Y_X6_isThere wi_X6_isThere ws_X6_isThere wm_X8_218 ⟨rfl, rfl, Nat.le_of_ble_eq_true rfl, Nat.le_of_ble_eq_true rfl, Nat.le_of_ble_eq_true rfl, Nat.le_of_ble_eq_true rfl⟩ (zx_tab_l hk6).1 (zx_tab_E hk6) rfl rfl hl.1 rfl (Nat.le_of_ble_eq_true rfl) dX8_tableOrNull_17) hS (fun H locs hW hS => ?_)
    refine lv_if_eq (tgt := 27) hx hb dX8_tableOrNull_20 (by decide) (fun c11 => ?_) (fun c11 => ?_)
    · have h := g_t c11 h
      refine lv_null hx hb dX8_tableOrNull_27 ?_
      exact zx_ra (x := 0) F hr zx_rfo_0.symm hW hS h dX8_tableOrNull_28
    · have h := g_f c11 h
      refine lv_aload_n hx hb dX8_tableOrNull_23 rfl (lv_at hl 0 rfl) ?_
      refine lv_goto (tgt := 28) hx hb dX8_tableOrNull_24 (by decide) ?_
      exact zx_ra (x := nI kt7) F hr (zx_rfo_nI (zx_tab_0 hk6) (zx_tab_l hk6).1).symm hW hS h dX8_tableOrNull_28
  · have h := g_t c4 h
    refine lv_null hx hb dX8_tableOrNull_7 ?_
    exact zx_ra (x := 0) F hr zx_rfo_0.symm hW hS h dX8_tableOrNull_8
theorem Y_X8_prepareForState : zx_Y yX8_prepareForState cX8_prepareForState 6 (some (.boolean)) 4 := ⟨wc_X8_prepareForState, wn_X8, by decide, by decide, by decide +kernel⟩
set_option maxHeartbeats 4000000 in
set_option maxRecDepth 100000 in
theorem c_X8_prepareForState (l : Launch) (D : va_G) (a : Nat → Nat) (cs : zx_C) (fu : Nat) (p0 : Int32) (p1 : Int32) (p2 : Int32) (p3 : Int32)  (S : St) (r9 : Int32) (S9 : St) (h : f_X8_prepareForState fu p0 p1 p2 p3 S = some (r9, S9)) : Met l yX8_prepareForState (Cond.code yX8_prepareForState cX8_prepareForState 6 (some (.boolean)) :: zx_tb) ({ frames := 5, cells := 0, slots := 0, locals := 116 }) (zx_P D a cs [.ref (a 0), .int p0, .int p1, .int p2, .int p3] S) (zx_Qi D a cs r9 S9) 0 0 (zx_A a) := by
  refine zx_met (own := RX8) (by decide) (Nat.le_of_ble_eq_true rfl) rfl ?_
  intro p e s m below meth c ls F hr hW hS hl
  have hl : lv_has ls 6 [(0, .ref (a 0)), (1, .int p0), (2, .int p1), (3, .int p2), (4, .int p3)] := hl
  obtain ⟨⟨hx, hb, hml, hown, hts⟩, hlk, hK, hJ, hN⟩ := id F
  unfold f_X8_prepareForState at h
  refine lv_aload_n hx hb dX8_prepareForState_0 rfl (lv_at hl 0 rfl) ?_
  refine lv_iload_n hx hb dX8_prepareForState_1 rfl (lv_at hl 1 rfl) ?_
  obtain ⟨r1, S2, h3, h⟩ := g_bd h
  refine zx_ca (zx_runV (q := (RX8, TX8, 11)) (As := [.int p0]) (rest := []) F hW (c_X8_tableOrNull l D a cs p0  S r1 S2 h3) Y_X8_tableOrNull wi_X8_tableOrNull ws_X8_tableOrNull wm_X8_103 ⟨rfl, rfl, Nat.le_of_ble_eq_true rfl, Nat.le_of_ble_eq_true rfl, Nat.le_of_ble_eq_true rfl, Nat.le_of_ble_eq_true rfl⟩ (by decide) zx_E0 rfl rfl hl.1 rfl (Nat.le_of_ble_eq_true rfl) dX8_prepareForState_2) hS (fun H locs hW hS => ?_)
  by_cases c4 : r1 = 0
  · have h := g_t c4 h
    rw [c4, zx_rfo_0]
    refine lv_astoreN (lv' := [(5, .null), (0, .ref (a 0)), (1, .int p0), (2, .int p1), (3, .int p2), (4, .int p3)]) hx hb dX8_prepareForState_5 hl (by decide) rfl (fun ls hl => ?_)
    refine lv_aloadN hx hb dX8_prepareForState_7 (lv_at hl 0 rfl) ?_
    refine lv_ifnullN (tgt := 20) hx hb dX8_prepareForState_9 (by decide) ?_
    refine lv_iconst (v := 0) hx hb dX8_prepareForState_20 (by decide) ?_
    exact zx_rz F hr (by decide) hW hS h dX8_prepareForState_21
  · have h := g_f c4 h
    obtain ⟨kt5, ekt5, h⟩ := g_pin h
    obtain ⟨hk6, h⟩ := g_ok h
    rw [zx_rfo_tab (by rw [← ekt5]; exact hk6), ← ekt5]
    refine lv_astore (lv' := [(5, .ref (a kt5)), (0, .ref (a 0)), (1, .int p0), (2, .int p1), (3, .int p2), (4, .int p3)]) hx hb dX8_prepareForState_5 hl (by decide) rfl (fun ls hl => ?_)
    refine lv_aload hx hb dX8_prepareForState_7 (lv_at hl 0 rfl) ?_
    refine lv_ifnull hx hb dX8_prepareForState_9 ?_
    refine lv_iload_n hx hb dX8_prepareForState_12 rfl (lv_at hl 3 rfl) ?_
    refine lv_iload_n hx hb dX8_prepareForState_13 rfl (lv_at hl 4 rfl) ?_
    obtain ⟨r7, S8, h9, h⟩ := g_bd h
    refine zx_ci (zx_runS (As := [.int p1, .int p2]) (rest := []) F hW (c_X8_isCoding l D a cs p1 p2  S2 r7 S8 h9) Y_X8_isCoding wt_X8_isCoding wm_X8_130 ⟨rfl, rfl, Nat.le_of_ble_eq_true rfl, Nat.le_of_ble_eq_true rfl, Nat.le_of_ble_eq_true rfl, Nat.le_of_ble_eq_true rfl⟩ rfl hl.1 rfl (Nat.le_of_ble_eq_true rfl) dX8_prepareForState_14) hS (fun H locs hW hS => ?_)
    refine lv_if_ne (tgt := 22) hx hb dX8_prepareForState_17 (by decide) (fun c10 => ?_) (fun c10 => ?_)
    · have h := g_f c10 h
      refine lv_aload_n hx hb dX8_prepareForState_22 rfl (lv_at hl 1 rfl) ?_
      refine zx_get (C := RX8) (T := TX8) (N := 11) F hW wu_X8 (by decide) zx_E0 rfl 5 (by decide) wf_X8_40 rfl dX8_prepareForState_23 ?_
      refine lv_aload hx hb dX8_prepareForState_26 (lv_at hl 0 rfl) ?_
      refine lv_iload_n hx hb dX8_prepareForState_28 rfl (lv_at hl 3 rfl) ?_
      refine lv_iload_n hx hb dX8_prepareForState_29 rfl (lv_at hl 4 rfl) ?_
      obtain ⟨r11, S12, h13, h⟩ := g_bd h
      refine zx_cv (zx_runV (q := (RX0, TX0, 8)) (As := [.ref (a kt5), .int p1, .int p2]) (rest := []) F hW (c_X0_prepare l D a cs fu kt5 p1 p2 hk6 S8 r11 S12 h13) Y_X0_prepare wi_X0_prepare ws_X0_prepare wm_X8_138 ⟨rfl, rfl, Nat.le_of_ble_eq_true rfl, Nat.le_of_ble_eq_true rfl, Nat.le_of_ble_eq_true rfl, Nat.le_of_ble_eq_true rfl⟩ (by decide) zx_E8 rfl rfl hl.1 rfl (Nat.le_of_ble_eq_true rfl) dX8_prepareForState_30) hS (fun H locs hW hS => ?_)
      refine lv_aload_n hx hb dX8_prepareForState_33 rfl (lv_at hl 1 rfl) ?_
      refine zx_get (C := RX8) (T := TX8) (N := 11) F hW wu_X8 (by decide) zx_E0 rfl 5 (by decide) wf_X8_40 rfl dX8_prepareForState_34 ?_
      refine lv_iload hx hb dX8_prepareForState_37 (lv_at hl 5 rfl) ?_
      obtain ⟨r14, S15, h16, h⟩ := g_bd h
      refine zx_ci (zx_runV (q := (RX0, TX0, 8)) (As := [.int p3]) (rest := []) F hW (c_X0_isState l D a cs p3  S12 r14 S15 h16) Y_X0_isState wi_X0_isState ws_X0_isState wm_X8_235 ⟨rfl, rfl, Nat.le_of_ble_eq_true rfl, Nat.le_of_ble_eq_true rfl, Nat.le_of_ble_eq_true rfl, Nat.le_of_ble_eq_true rfl⟩ (by decide) zx_E8 rfl rfl hl.1 rfl (Nat.le_of_ble_eq_true rfl) dX8_prepareForState_39) hS (fun H locs hW hS => ?_)
      obtain ⟨c17, h⟩ := g_ok h
      exact zx_rz F hr c17 hW hS h dX8_prepareForState_42
    · have h := g_t c10 h
      refine lv_iconst (v := 0) hx hb dX8_prepareForState_20 (by decide) ?_
      exact zx_rz F hr (by decide) hW hS h dX8_prepareForState_21
theorem Y_X8_code : zx_Y yX8_code cX8_code 6 (some (.int)) 5 := ⟨wc_X8_code, wn_X8, by decide, by decide, by decide +kernel⟩
set_option maxHeartbeats 4000000 in
set_option maxRecDepth 100000 in
theorem c_X8_code (l : Launch) (D : va_G) (a : Nat → Nat) (cs : zx_C) (fu : Nat) (p0 : Int32) (p1 : Int32) (p2 : Int32) (p3 : Int32) (p4 : Int32)  (S : St) (r9 : Int32) (S9 : St) (h : f_X8_code fu p0 p1 p2 p3 p4 S = some (r9, S9)) : Met l yX8_code (Cond.code yX8_code cX8_code 6 (some (.int)) :: zx_tb) ({ frames := 6, cells := 0, slots := 0, locals := 141 }) (zx_P D a cs [.ref (a 0), .int p0, .int p1, .int p2, .int p3, .int p4] S) (zx_Qi D a cs r9 S9) 0 0 (zx_A a) := by
  refine zx_met (own := RX8) (by decide) (Nat.le_of_ble_eq_true rfl) rfl ?_
  intro p e s m below meth c ls F hr hW hS hl
  have hl : lv_has ls 6 [(0, .ref (a 0)), (1, .int p0), (2, .int p1), (3, .int p2), (4, .int p3), (5, .int p4)] := hl
  obtain ⟨⟨hx, hb, hml, hown, hts⟩, hlk, hK, hJ, hN⟩ := id F
  unfold f_X8_code at h
  refine lv_aload_n hx hb dX8_code_0 rfl (lv_at hl 0 rfl) ?_
  refine lv_iload_n hx hb dX8_code_1 rfl (lv_at hl 1 rfl) ?_
  refine lv_iload_n hx hb dX8_code_2 rfl (lv_at hl 2 rfl) ?_
  refine lv_iload_n hx hb dX8_code_3 rfl (lv_at hl 3 rfl) ?_
  refine lv_iload hx hb dX8_code_4 (lv_at hl 4 rfl) ?_
  obtain ⟨r1, S2, h3, h⟩ := g_bd h
  refine zx_ci (zx_runV (q := (RX8, TX8, 11)) (As := [.int p0, .int p1, .int p2, .int p3]) (rest := []) F hW (c_X8_prepareForState l D a cs fu p0 p1 p2 p3  S r1 S2 h3) Y_X8_prepareForState wi_X8_prepareForState ws_X8_prepareForState wm_X8_189 ⟨rfl, rfl, Nat.le_of_ble_eq_true rfl, Nat.le_of_ble_eq_true rfl, Nat.le_of_ble_eq_true rfl, Nat.le_of_ble_eq_true rfl⟩ (by decide) zx_E0 rfl rfl hl.1 rfl (Nat.le_of_ble_eq_true rfl) dX8_code_6) hS (fun H locs hW hS => ?_)
  refine lv_if_eq (tgt := 27) hx hb dX8_code_9 (by decide) (fun c4 => ?_) (fun c4 => ?_)
  · have h := g_t c4 h
    refine lv_iconst (v := -1) hx hb dX8_code_27 (by decide) ?_
    exact zx_ri F hr hW hS h dX8_code_28
  · have h := g_f c4 h
    refine lv_aload_n hx hb dX8_code_12 rfl (lv_at hl 0 rfl) ?_
    refine zx_get (C := RX8) (T := TX8) (N := 11) F hW wu_X8 (by decide) zx_E0 rfl 5 (by decide) wf_X8_40 rfl dX8_code_13 ?_
    refine zx_get (C := RX0) (T := TX0) (N := 8) F hW wu_X0 (by decide) zx_E8 rfl 0 (by decide) wf_X8_92 rfl dX8_code_16 ?_
    refine lv_iload hx hb dX8_code_19 (lv_at hl 5 rfl) ?_
    obtain ⟨r5, S6, h7, h⟩ := g_bd h
    refine zx_ci (zx_runV (q := (RX5, TX5, 10)) (As := [.int p4]) (rest := []) F hW (c_X5_shareOf l D a cs p4  S2 r5 S6 h7) Y_X5_shareOf wi_X5_shareOf ws_X5_shareOf wm_X8_193 ⟨rfl, rfl, Nat.le_of_ble_eq_true rfl, Nat.le_of_ble_eq_true rfl, Nat.le_of_ble_eq_true rfl, Nat.le_of_ble_eq_true rfl⟩ (by decide) zx_E9 rfl rfl hl.1 rfl (Nat.le_of_ble_eq_true rfl) dX8_code_21) hS (fun H locs hW hS => ?_)
    refine lv_if_ne (tgt := 29) hx hb dX8_code_24 (by decide) (fun c8 => ?_) (fun c8 => ?_)
    · have h := g_f c8 h
      refine lv_aload_n hx hb dX8_code_29 rfl (lv_at hl 0 rfl) ?_
      refine zx_get (C := RX8) (T := TX8) (N := 11) F hW wu_X8 (by decide) zx_E0 rfl 5 (by decide) wf_X8_40 rfl dX8_code_30 ?_
      refine lv_iload hx hb dX8_code_33 (lv_at hl 4 rfl) ?_
      refine lv_iload hx hb dX8_code_35 (lv_at hl 5 rfl) ?_
      obtain ⟨r9, S10, h11, h⟩ := g_bd h
      refine zx_cv (zx_runV (q := (RX0, TX0, 8)) (As := [.int p3, .int p4]) (rest := []) F hW (c_X0_advance l D a cs fu p3 p4  S6 r9 S10 h11) Y_X0_advance wi_X0_advance ws_X0_advance wm_X8_194 ⟨rfl, rfl, Nat.le_of_ble_eq_true rfl, Nat.le_of_ble_eq_true rfl, Nat.le_of_ble_eq_true rfl, Nat.le_of_ble_eq_true rfl⟩ (by decide) zx_E8 rfl rfl hl.1 rfl (Nat.le_of_ble_eq_true rfl) dX8_code_37) hS (fun H locs hW hS => ?_)
      refine lv_aload_n hx hb dX8_code_40 rfl (lv_at hl 0 rfl) ?_
      refine lv_aload_n hx hb dX8_code_41 rfl (lv_at hl 0 rfl) ?_
      refine zx_get (C := RX8) (T := TX8) (N := 11) F hW wu_X8 (by decide) zx_E0 rfl 5 (by decide) wf_X8_40 rfl dX8_code_42 ?_
      refine zx_get (C := RX0) (T := TX0) (N := 8) F hW wu_X0 (by decide) zx_E8 rfl 6 (by decide) wf_X8_197 rfl dX8_code_45 ?_
      obtain ⟨S12, eS12, h⟩ := g_pin h
      refine zx_putv (C := RX8) (T := TX8) (N := 11) F hW hS wu_X8 tyX8_ok nmX8 (by decide) zx_E0 rfl 9 (by decide) wf_X8_62 rfl (S10 8 6) rfl rfl (Nat.le_of_ble_eq_true rfl) rfl dX8_code_48 (fun H locs hW hS => ?_)
      have hW : zx_W D a cs S12 H := by rw [eS12]; exact hW
      refine lv_aload_n hx hb dX8_code_51 rfl (lv_at hl 0 rfl) ?_
      refine lv_aload_n hx hb dX8_code_52 rfl (lv_at hl 0 rfl) ?_
      refine zx_get (C := RX8) (T := TX8) (N := 11) F hW wu_X8 (by decide) zx_E0 rfl 5 (by decide) wf_X8_40 rfl dX8_code_53 ?_
      refine zx_get (C := RX0) (T := TX0) (N := 8) F hW wu_X0 (by decide) zx_E8 rfl 7 (by decide) wf_X8_200 rfl dX8_code_56 ?_
      obtain ⟨S13, eS13, h⟩ := g_pin h
      refine zx_putv (C := RX8) (T := TX8) (N := 11) F hW hS wu_X8 tyX8_ok nmX8 (by decide) zx_E0 rfl 10 (by decide) wf_X8_66 rfl (S12 8 7) rfl rfl (Nat.le_of_ble_eq_true rfl) rfl dX8_code_59 (fun H locs hW hS => ?_)
      have hW : zx_W D a cs S13 H := by rw [eS13]; exact hW
      refine lv_aload_n hx hb dX8_code_62 rfl (lv_at hl 0 rfl) ?_
      refine zx_get (C := RX8) (T := TX8) (N := 11) F hW wu_X8 (by decide) zx_E0 rfl 5 (by decide) wf_X8_40 rfl dX8_code_63 ?_
      refine zx_get (C := RX0) (T := TX0) (N := 8) F hW wu_X0 (by decide) zx_E8 rfl 5 (by decide) wf_X8_203 rfl dX8_code_66 ?_
      exact zx_ri F hr hW hS h dX8_code_69
    · have h := g_t c8 h
      refine lv_iconst (v := -1) hx hb dX8_code_27 (by decide) ?_
      exact zx_ri F hr hW hS h dX8_code_28
theorem Y_X8_countTape : zx_Y yX8_countTape cX8_countTape 4 (some (.int)) 0 := ⟨wc_X8_countTape, wn_X8, by decide, by decide, by decide +kernel⟩
set_option maxHeartbeats 4000000 in
set_option maxRecDepth 100000 in
theorem k_X8_countTape_L61 {l : Launch} {D : va_G} {a : Nat → Nat} {cs : zx_C} {p : Program} {e : Env} {s : State} {m : MethodId} {below : List Frame} {meth : Method} {c : Code} {fu : Nat}   (F : zx_F D a cs p m c cX8_countTape 4 s ([.ref (a 0)] : List Value).toArray RX8 meth) (hr : meth.sig.returnType = (some (.int))) {r9 : Int32} {S9 : St} {K12 : Int32 → Int32 → St → Option (Int32 × St)} (hK12 : ∀ (v1 : Int32) (v2 : Int32) (S : St), K12 v1 v2 S = some (r9, S9) → ∀ (H : Heap) (locs : List Loc) (ls : Array Slot), zx_W D a cs S H → va_S (zx_A a) s.heap H locs → lv_has ls 4 [(0, .ref (a 0)), (1, .int v1), (2, .int v2)] → W p l e ({ frames := 1, cells := 0, slots := 0, locals := 23 }) s m ([.ref (a 0)] : List Value).toArray below meth c H locs 0 0 (MQ below (zx_Qi D a cs r9 S9) ([.ref (a 0)] : List Value).toArray s 0 0 (zx_A a)) (F0 m 12 ls []))  (v1 : Int32) (v2 : Int32) (S : St) (h : f_X8_countTape_L61 fu  K12  v1 v2 S = some (r9, S9)) (H : Heap) (locs : List Loc) (ls : Array Slot) (hW : zx_W D a cs S H) (hS : va_S (zx_A a) s.heap H locs) (hl : lv_has ls 4 [(0, .ref (a 0)), (1, .int v1), (2, .int v2)]) : W p l e ({ frames := 1, cells := 0, slots := 0, locals := 23 }) s m ([.ref (a 0)] : List Value).toArray below meth c H locs 0 0 (MQ below (zx_Qi D a cs r9 S9) ([.ref (a 0)] : List Value).toArray s 0 0 (zx_A a)) (F0 m 61 ls []) := by
  obtain ⟨⟨hx, hb, hml, hown, hts⟩, hlk, hK, hJ, hN⟩ := id F
  unfold f_X8_countTape_L61 at h
  obtain ⟨x12, ex12, h⟩ := g_pin h
  refine lv_iinc (v := x12) (lv' := [(2, .int x12), (0, .ref (a 0)), (1, .int v1)]) hx hb dX8_countTape_61 hl (k := 2) rfl (by rw [ex12]; rfl) (by decide) rfl (fun ls hl => ?_)
  refine lv_goto (tgt := 12) hx hb dX8_countTape_64 (by decide) ?_
  exact hK12 v1 x12 S h _ _ _ hW hS (lv_sub hl [1, 2, 0] rfl)
set_option maxHeartbeats 4000000 in
set_option maxRecDepth 100000 in
theorem k_X8_countTape_L51 {l : Launch} {D : va_G} {a : Nat → Nat} {cs : zx_C} {p : Program} {e : Env} {s : State} {m : MethodId} {below : List Frame} {meth : Method} {c : Code} {fu : Nat}   (F : zx_F D a cs p m c cX8_countTape 4 s ([.ref (a 0)] : List Value).toArray RX8 meth) (hr : meth.sig.returnType = (some (.int))) {r9 : Int32} {S9 : St} {K12 : Int32 → Int32 → St → Option (Int32 × St)} (hK12 : ∀ (v1 : Int32) (v2 : Int32) (S : St), K12 v1 v2 S = some (r9, S9) → ∀ (H : Heap) (locs : List Loc) (ls : Array Slot), zx_W D a cs S H → va_S (zx_A a) s.heap H locs → lv_has ls 4 [(0, .ref (a 0)), (1, .int v1), (2, .int v2)] → W p l e ({ frames := 1, cells := 0, slots := 0, locals := 23 }) s m ([.ref (a 0)] : List Value).toArray below meth c H locs 0 0 (MQ below (zx_Qi D a cs r9 S9) ([.ref (a 0)] : List Value).toArray s 0 0 (zx_A a)) (F0 m 12 ls []))  (v1 : Int32) (v2 : Int32) (v3 : Int32) (S : St) (h : f_X8_countTape_L51 fu  K12  v1 v2 v3 S = some (r9, S9)) (H : Heap) (locs : List Loc) (ls : Array Slot) (hW : zx_W D a cs S H) (hS : va_S (zx_A a) s.heap H locs) (hl : lv_has ls 4 [(0, .ref (a 0)), (1, .int v1), (2, .int v2), (3, .int v3)]) : W p l e ({ frames := 1, cells := 0, slots := 0, locals := 23 }) s m ([.ref (a 0)] : List Value).toArray below meth c H locs 0 0 (MQ below (zx_Qi D a cs r9 S9) ([.ref (a 0)] : List Value).toArray s 0 0 (zx_A a)) (F0 m 51 ls []) := by
  obtain ⟨⟨hx, hb, hml, hown, hts⟩, hlk, hK, hJ, hN⟩ := id F
  unfold f_X8_countTape_L51 at h
  refine lv_aload_n hx hb dX8_countTape_51 rfl (lv_at hl 0 rfl) ?_
  refine zx_get (C := RX8) (T := TX8) (N := 11) F hW wu_X8 (by decide) zx_E0 rfl 3 (by decide) wf_X8_25 rfl dX8_countTape_52 ?_
  refine lv_iload_n hx hb dX8_countTape_55 rfl (lv_at hl 3 rfl) ?_
  refine lv_dup2_11 hx hb dX8_countTape_56 rfl rfl ?_
  obtain ⟨c15, h⟩ := g_no h
  refine zx_iald (n := 256) F hW (by decide) zx_E6 c15 dX8_countTape_57 ?_
  refine lv_iconst (v := 1) hx hb dX8_countTape_58 (by decide) ?_
  refine lv_iadd hx hb dX8_countTape_59 ?_
  obtain ⟨c17, h⟩ := g_no h
  obtain ⟨S16, eS16, h⟩ := g_pin h
  refine zx_iast (n := 256) F hW hS (by decide) (fun f => zx_E6) c17 dX8_countTape_60 (fun H locs hW hS => ?_)
  have hW : zx_W D a cs S16 H := by rw [eS16]; exact hW
  exact k_X8_countTape_L61  F hr hK12  v1 v2 S16 h _ _ _ hW hS (lv_sub hl [0, 1, 2] rfl)
set_option maxHeartbeats 4000000 in
set_option maxRecDepth 100000 in
theorem k_X8_countTape_L12 {l : Launch} {D : va_G} {a : Nat → Nat} {cs : zx_C} {p : Program} {e : Env} {s : State} {m : MethodId} {below : List Frame} {meth : Method} {c : Code} {fu : Nat}   (F : zx_F D a cs p m c cX8_countTape 4 s ([.ref (a 0)] : List Value).toArray RX8 meth) (hr : meth.sig.returnType = (some (.int))) {r9 : Int32} {S9 : St}    : ∀ (n : Nat) (v1 : Int32) (v2 : Int32) (S : St), f_X8_countTape_L12 fu    n v1 v2 S = some (r9, S9) → ∀ (H : Heap) (locs : List Loc) (ls : Array Slot), zx_W D a cs S H → va_S (zx_A a) s.heap H locs → lv_has ls 4 [(0, .ref (a 0)), (1, .int v1), (2, .int v2)] → W p l e ({ frames := 1, cells := 0, slots := 0, locals := 23 }) s m ([.ref (a 0)] : List Value).toArray below meth c H locs 0 0 (MQ below (zx_Qi D a cs r9 S9) ([.ref (a 0)] : List Value).toArray s 0 0 (zx_A a)) (F0 m 12 ls []) := by
  obtain ⟨⟨hx, hb, hml, hown, hts⟩, hlk, hK, hJ, hN⟩ := id F
  intro n
  induction n with
  | zero =>
    intro v1 v2 S h
    exact absurd h (fun q => by cases q)
  | succ n ih =>
    intro v1 v2 S h H locs ls hW hS hl
    rw [f_X8_countTape_L12_s] at h
    refine lv_iload_n hx hb dX8_countTape_12 rfl (lv_at hl 2 rfl) ?_
    refine lv_aload_n hx hb dX8_countTape_13 rfl (lv_at hl 0 rfl) ?_
    refine zx_get (C := RX8) (T := TX8) (N := 11) F hW wu_X8 (by decide) zx_E0 rfl 0 (by decide) wf_X8_12 rfl dX8_countTape_14 ?_
    refine zx_get (C := RX4) (T := TX4) (N := 2) F hW wu_X4 (by decide) zx_E1 rfl 1 (by decide) wf_X8_70 rfl dX8_countTape_17 ?_
    refine lv_icmp_ge (tgt := 67) hx hb dX8_countTape_20 (by decide) (fun c4 => ?_) (fun c4 => ?_)
    · have h := g_t c4 h
      refine lv_iload_n hx hb dX8_countTape_67 rfl (lv_at hl 1 rfl) ?_
      exact zx_ri F hr hW hS h dX8_countTape_68
    · have h := g_f c4 h
      refine lv_aload_n hx hb dX8_countTape_23 rfl (lv_at hl 0 rfl) ?_
      refine zx_get (C := RX8) (T := TX8) (N := 11) F hW wu_X8 (by decide) zx_E0 rfl 0 (by decide) wf_X8_12 rfl dX8_countTape_24 ?_
      refine lv_iload_n hx hb dX8_countTape_27 rfl (lv_at hl 2 rfl) ?_
      obtain ⟨r5, S6, h7, h⟩ := g_bd h
      refine zx_ci (zx_runV (q := (RX4, TX4, 2)) (As := [.int v2]) (rest := []) F hW (c_X4_byteAt l D a cs 1 v2 (by decide) S r5 S6 h7) Y_X4_byteAt wi_X4_byteAt ws_X4_byteAt wm_X8_174 ⟨rfl, rfl, Nat.le_of_ble_eq_true rfl, Nat.le_of_ble_eq_true rfl, Nat.le_of_ble_eq_true rfl, Nat.le_of_ble_eq_true rfl⟩ (by decide) zx_E1 rfl rfl hl.1 rfl (Nat.le_of_ble_eq_true rfl) dX8_countTape_28) hS (fun H locs hW hS => ?_)
      refine lv_istore_n (lv' := [(3, .int r5), (0, .ref (a 0)), (1, .int v1), (2, .int v2)]) hx hb dX8_countTape_31 rfl hl (by decide) rfl (fun ls hl => ?_)
      refine lv_iload_n hx hb dX8_countTape_32 rfl (lv_at hl 0 rfl) ?_
      obtain ⟨r8, S9, h10, h⟩ := g_bd h
      refine zx_ci (zx_runS (As := [.int r5]) (rest := []) F hW (c_X8_isSymbol l D a cs r5  S6 r8 S9 h10) Y_X8_isSymbol wt_X8_isSymbol wm_X8_110 ⟨rfl, rfl, Nat.le_of_ble_eq_true rfl, Nat.le_of_ble_eq_true rfl, Nat.le_of_ble_eq_true rfl, Nat.le_of_ble_eq_true rfl⟩ rfl hl.1 rfl (Nat.le_of_ble_eq_true rfl) dX8_countTape_33) hS (fun H locs hW hS => ?_)
      refine lv_if_eq (tgt := 61) hx hb dX8_countTape_36 (by decide) (fun c11 => ?_) (fun c11 => ?_)
      · have h := g_t c11 h
        exact k_X8_countTape_L61  F hr ih  v1 v2 S9 h _ _ _ hW hS (lv_sub hl [1, 2, 3] rfl)
      · have h := g_f c11 h
        refine lv_aload_n hx hb dX8_countTape_39 rfl (lv_at hl 1 rfl) ?_
        refine zx_get (C := RX8) (T := TX8) (N := 11) F hW wu_X8 (by decide) zx_E0 rfl 3 (by decide) wf_X8_25 rfl dX8_countTape_40 ?_
        refine lv_iload_n hx hb dX8_countTape_43 rfl (lv_at hl 0 rfl) ?_
        obtain ⟨c13, h⟩ := g_no h
        refine zx_iald (n := 256) F hW (by decide) zx_E6 c13 dX8_countTape_44 ?_
        refine lv_if_ne (tgt := 51) hx hb dX8_countTape_45 (by decide) (fun c14 => ?_) (fun c14 => ?_)
        · have h := g_f c14 h
          exact k_X8_countTape_L51  F hr ih  v1 v2 r5 S9 h _ _ _ hW hS (lv_sub hl [1, 2, 3, 0] rfl)
        · have h := g_t c14 h
          obtain ⟨x18, ex18, h⟩ := g_pin h
          refine lv_iinc (v := x18) (lv' := [(1, .int x18), (3, .int r5), (0, .ref (a 0)), (2, .int v2)]) hx hb dX8_countTape_48 hl (k := 2) rfl (by rw [ex18]; rfl) (by decide) rfl (fun ls hl => ?_)
          exact k_X8_countTape_L51  F hr ih  x18 v2 r5 S9 h _ _ _ hW hS (lv_sub hl [2, 0, 3, 1] rfl)
set_option maxHeartbeats 4000000 in
set_option maxRecDepth 100000 in
theorem c_X8_countTape (l : Launch) (D : va_G) (a : Nat → Nat) (cs : zx_C) (fu : Nat)   (S : St) (r9 : Int32) (S9 : St) (h : f_X8_countTape fu  S = some (r9, S9)) : Met l yX8_countTape (Cond.code yX8_countTape cX8_countTape 4 (some (.int)) :: zx_tb) ({ frames := 1, cells := 0, slots := 0, locals := 23 }) (zx_P D a cs [.ref (a 0)] S) (zx_Qi D a cs r9 S9) 0 0 (zx_A a) := by
  refine zx_met (own := RX8) (by decide) (Nat.le_of_ble_eq_true rfl) rfl ?_
  intro p e s m below meth c ls F hr hW hS hl
  have hl : lv_has ls 4 [(0, .ref (a 0))] := hl
  obtain ⟨⟨hx, hb, hml, hown, hts⟩, hlk, hK, hJ, hN⟩ := id F
  unfold f_X8_countTape at h
  refine lv_aload_n hx hb dX8_countTape_0 rfl (lv_at hl 0 rfl) ?_
  refine zx_get (C := RX8) (T := TX8) (N := 11) F hW wu_X8 (by decide) zx_E0 rfl 3 (by decide) wf_X8_25 rfl dX8_countTape_1 ?_
  refine lv_iconst (v := 0) hx hb dX8_countTape_4 (by decide) ?_
  obtain ⟨r1, S2, h3, h⟩ := g_bd h
  refine zx_cv (zx_runS (As := [.ref (a 6), .int (0 : Int32)]) (rest := []) F hW (c_J7_fill_53178 l D a cs fu 6 (0 : Int32) (by decide) S r1 S2 h3) Y_J7_fill_53178 wt_J7_fill_53178 wm_X8_222 ⟨rfl, rfl, Nat.le_of_ble_eq_true rfl, Nat.le_of_ble_eq_true rfl, Nat.le_of_ble_eq_true rfl, Nat.le_of_ble_eq_true rfl⟩ rfl hl.1 rfl (Nat.le_of_ble_eq_true rfl) dX8_countTape_5) hS (fun H locs hW hS => ?_)
  refine lv_iconst (v := 0) hx hb dX8_countTape_8 (by decide) ?_
  refine lv_istore_n (lv' := [(1, .int (0 : Int32)), (0, .ref (a 0))]) hx hb dX8_countTape_9 rfl hl (by decide) rfl (fun ls hl => ?_)
  refine lv_iconst (v := 0) hx hb dX8_countTape_10 (by decide) ?_
  refine lv_istore_n (lv' := [(2, .int (0 : Int32)), (1, .int (0 : Int32)), (0, .ref (a 0))]) hx hb dX8_countTape_11 rfl hl (by decide) rfl (fun ls hl => ?_)
  exact k_X8_countTape_L12  F hr   fu (0 : Int32) (0 : Int32) S2 h _ _ _ hW hS (lv_sub hl [2, 1, 0] rfl)
theorem Y_X8_end : zx_Y yX8_end cX8_end 2 (some (.int)) 1 := ⟨wc_X8_end, wn_X8, by decide, by decide, by decide +kernel⟩
set_option maxHeartbeats 4000000 in
set_option maxRecDepth 100000 in
theorem c_X8_end (l : Launch) (D : va_G) (a : Nat → Nat) (cs : zx_C) (p0 : Int32)  (S : St) (r9 : Int32) (S9 : St) (h : f_X8_end p0 S = some (r9, S9)) : Met l yX8_end (Cond.code yX8_end cX8_end 2 (some (.int)) :: zx_tb) ({ frames := 0, cells := 0, slots := 0, locals := 0 }) (zx_P D a cs [.ref (a 0), .int p0] S) (zx_Qi D a cs r9 S9) 0 0 (zx_A a) := by
  refine zx_met (own := RX8) (by decide) (Nat.le_of_ble_eq_true rfl) rfl ?_
  intro p e s m below meth c ls F hr hW hS hl
  have hl : lv_has ls 2 [(0, .ref (a 0)), (1, .int p0)] := hl
  obtain ⟨⟨hx, hb, hml, hown, hts⟩, hlk, hK, hJ, hN⟩ := id F
  unfold f_X8_end at h
  refine lv_iload_n hx hb dX8_end_0 rfl (lv_at hl 1 rfl) ?_
  refine lv_if_lt (tgt := 15) hx hb dX8_end_1 (by decide) (fun c1 => ?_) (fun c1 => ?_)
  · have h := g_t c1 h
    refine lv_iconst (v := -1) hx hb dX8_end_15 (by decide) ?_
    exact zx_ri F hr hW hS h dX8_end_16
  · have h := g_f c1 h
    refine lv_iload_n hx hb dX8_end_4 rfl (lv_at hl 1 rfl) ?_
    refine lv_aload_n hx hb dX8_end_5 rfl (lv_at hl 0 rfl) ?_
    refine zx_get (C := RX8) (T := TX8) (N := 11) F hW wu_X8 (by decide) zx_E0 rfl 0 (by decide) wf_X8_12 rfl dX8_end_6 ?_
    refine zx_get (C := RX4) (T := TX4) (N := 2) F hW wu_X4 (by decide) zx_E1 rfl 1 (by decide) wf_X8_70 rfl dX8_end_9 ?_
    refine lv_icmp_le (tgt := 17) hx hb dX8_end_12 (by decide) (fun c2 => ?_) (fun c2 => ?_)
    · have h := g_t c2 h
      refine lv_aload_n hx hb dX8_end_17 rfl (lv_at hl 0 rfl) ?_
      refine zx_get (C := RX8) (T := TX8) (N := 11) F hW wu_X8 (by decide) zx_E0 rfl 0 (by decide) wf_X8_12 rfl dX8_end_18 ?_
      refine lv_iload_n hx hb dX8_end_21 rfl (lv_at hl 1 rfl) ?_
      obtain ⟨S3, eS3, h⟩ := g_pin h
      refine zx_putv (C := RX4) (T := TX4) (N := 2) F hW hS wu_X4 tyX4_ok nmX4 (by decide) zx_E1 rfl 1 (by decide) wf_X8_70 rfl p0 rfl rfl (Nat.le_of_ble_eq_true rfl) rfl dX8_end_22 (fun H locs hW hS => ?_)
      have hW : zx_W D a cs S3 H := by rw [eS3]; exact hW
      refine lv_iload_n hx hb dX8_end_25 rfl (lv_at hl 1 rfl) ?_
      exact zx_ri F hr hW hS h dX8_end_26
    · have h := g_f c2 h
      refine lv_iconst (v := -1) hx hb dX8_end_15 (by decide) ?_
      exact zx_ri F hr hW hS h dX8_end_16
theorem Y_X8_fault : zx_Y yX8_fault cX8_fault 2 (some (.int)) 1 := ⟨wc_X8_fault, wn_X8, by decide, by decide, by decide +kernel⟩
set_option maxHeartbeats 4000000 in
set_option maxRecDepth 100000 in
theorem c_X8_fault (l : Launch) (D : va_G) (a : Nat → Nat) (cs : zx_C) (p0 : Int32)  (S : St) (r9 : Int32) (S9 : St) (h : f_X8_fault p0 S = some (r9, S9)) : Met l yX8_fault (Cond.code yX8_fault cX8_fault 2 (some (.int)) :: zx_tb) ({ frames := 0, cells := 0, slots := 0, locals := 0 }) (zx_P D a cs [.ref (a 0), .int p0] S) (zx_Qi D a cs r9 S9) 0 0 (zx_A a) := by
  refine zx_met (own := RX8) (by decide) (Nat.le_of_ble_eq_true rfl) rfl ?_
  intro p e s m below meth c ls F hr hW hS hl
  have hl : lv_has ls 2 [(0, .ref (a 0)), (1, .int p0)] := hl
  obtain ⟨⟨hx, hb, hml, hown, hts⟩, hlk, hK, hJ, hN⟩ := id F
  unfold f_X8_fault at h
  refine lv_iload_n hx hb dX8_fault_0 rfl (lv_at hl 1 rfl) ?_
  refine lv_if_ne (tgt := 12) hx hb dX8_fault_1 (by decide) (fun c1 => ?_) (fun c1 => ?_)
  · have h := g_f c1 h
    refine lv_iload_n hx hb dX8_fault_12 rfl (lv_at hl 1 rfl) ?_
    refine lv_iconst (v := 1) hx hb dX8_fault_13 (by decide) ?_
    refine lv_icmp_ne (tgt := 27) hx hb dX8_fault_14 (by decide) (fun c2 => ?_) (fun c2 => ?_)
    · have h := g_f c2 h
      refine lv_iconst (v := -1) hx hb dX8_fault_27 (by decide) ?_
      exact zx_ri F hr hW hS h dX8_fault_28
    · have h := g_t c2 h
      refine lv_aload_n hx hb dX8_fault_17 rfl (lv_at hl 0 rfl) ?_
      refine zx_get (C := RX8) (T := TX8) (N := 11) F hW wu_X8 (by decide) zx_E0 rfl 4 (by decide) wf_X8_32 rfl dX8_fault_18 ?_
      refine zx_get (C := RX1) (T := TX1) (N := 16) F hW wu_X1 (by decide) zx_E7 rfl 7 (by decide) wf_X8_171 rfl dX8_fault_21 ?_
      refine lv_goto (tgt := 28) hx hb dX8_fault_24 (by decide) ?_
      exact zx_ri F hr hW hS h dX8_fault_28
  · have h := g_t c1 h
    refine lv_aload_n hx hb dX8_fault_4 rfl (lv_at hl 0 rfl) ?_
    refine zx_get (C := RX8) (T := TX8) (N := 11) F hW wu_X8 (by decide) zx_E0 rfl 4 (by decide) wf_X8_32 rfl dX8_fault_5 ?_
    refine zx_get (C := RX1) (T := TX1) (N := 16) F hW wu_X1 (by decide) zx_E7 rfl 6 (by decide) wf_X8_168 rfl dX8_fault_8 ?_
    exact zx_ri F hr hW hS h dX8_fault_11
theorem Y_X8_feed : zx_Y yX8_feed cX8_feed 6 (some (.int)) 5 := ⟨wc_X8_feed, wn_X8, by decide, by decide, by decide +kernel⟩
set_option maxHeartbeats 4000000 in
set_option maxRecDepth 100000 in
theorem c_X8_feed (l : Launch) (D : va_G) (a : Nat → Nat) (cs : zx_C) (fu : Nat) (p0 : Int32) (p1 : Int32) (p2 : Int32) (p3 : Int32) (p4 : Int32)  (S : St) (r9 : Int32) (S9 : St) (h : f_X8_feed fu p0 p1 p2 p3 p4 S = some (r9, S9)) : Met l yX8_feed (Cond.code yX8_feed cX8_feed 6 (some (.int)) :: zx_tb) ({ frames := 2, cells := 0, slots := 0, locals := 44 }) (zx_P D a cs [.ref (a 0), .int p0, .int p1, .int p2, .int p3, .int p4] S) (zx_Qi D a cs r9 S9) 0 0 (zx_A a) := by
  refine zx_met (own := RX8) (by decide) (Nat.le_of_ble_eq_true rfl) rfl ?_
  intro p e s m below meth c ls F hr hW hS hl
  have hl : lv_has ls 6 [(0, .ref (a 0)), (1, .int p0), (2, .int p1), (3, .int p2), (4, .int p3), (5, .int p4)] := hl
  obtain ⟨⟨hx, hb, hml, hown, hts⟩, hlk, hK, hJ, hN⟩ := id F
  unfold f_X8_feed at h
  refine lv_aload_n hx hb dX8_feed_0 rfl (lv_at hl 0 rfl) ?_
  refine zx_get (C := RX8) (T := TX8) (N := 11) F hW wu_X8 (by decide) zx_E0 rfl 0 (by decide) wf_X8_12 rfl dX8_feed_1 ?_
  refine zx_get (C := RX4) (T := TX4) (N := 2) F hW wu_X4 (by decide) zx_E1 rfl 1 (by decide) wf_X8_70 rfl dX8_feed_4 ?_
  refine lv_bipush (v := 20) hx hb dX8_feed_7 (by decide) ?_
  refine lv_iadd hx hb dX8_feed_9 ?_
  refine lv_sipush (v := 4000) hx hb dX8_feed_10 (by decide) ?_
  refine lv_icmp_le (tgt := 18) hx hb dX8_feed_13 (by decide) (fun c1 => ?_) (fun c1 => ?_)
  · have h := g_t c1 h
    refine lv_aload_n hx hb dX8_feed_18 rfl (lv_at hl 0 rfl) ?_
    refine zx_get (C := RX8) (T := TX8) (N := 11) F hW wu_X8 (by decide) zx_E0 rfl 0 (by decide) wf_X8_12 rfl dX8_feed_19 ?_
    refine lv_iload_n hx hb dX8_feed_22 rfl (lv_at hl 1 rfl) ?_
    refine lv_iconst (v := 4) hx hb dX8_feed_23 (by decide) ?_
    obtain ⟨r2, S3, h4, h⟩ := g_bd h
    refine zx_cv (zx_runV (q := (RX4, TX4, 2)) (As := [.int p0, .int (4 : Int32)]) (rest := []) F hW (c_X4_addNumber l D a cs fu 1 p0 (4 : Int32) (by decide) S r2 S3 h4) Y_X4_addNumber wi_X4_addNumber ws_X4_addNumber wm_X8_73 ⟨rfl, rfl, Nat.le_of_ble_eq_true rfl, Nat.le_of_ble_eq_true rfl, Nat.le_of_ble_eq_true rfl, Nat.le_of_ble_eq_true rfl⟩ (by decide) zx_E1 rfl rfl hl.1 rfl (Nat.le_of_ble_eq_true rfl) dX8_feed_24) hS (fun H locs hW hS => ?_)
    refine lv_aload_n hx hb dX8_feed_27 rfl (lv_at hl 0 rfl) ?_
    refine zx_get (C := RX8) (T := TX8) (N := 11) F hW wu_X8 (by decide) zx_E0 rfl 0 (by decide) wf_X8_12 rfl dX8_feed_28 ?_
    refine lv_iload_n hx hb dX8_feed_31 rfl (lv_at hl 2 rfl) ?_
    refine lv_iconst (v := 4) hx hb dX8_feed_32 (by decide) ?_
    obtain ⟨r5, S6, h7, h⟩ := g_bd h
    refine zx_cv (zx_runV (q := (RX4, TX4, 2)) (As := [.int p1, .int (4 : Int32)]) (rest := []) F hW (c_X4_addNumber l D a cs fu 1 p1 (4 : Int32) (by decide) S3 r5 S6 h7) Y_X4_addNumber wi_X4_addNumber ws_X4_addNumber wm_X8_73 ⟨rfl, rfl, Nat.le_of_ble_eq_true rfl, Nat.le_of_ble_eq_true rfl, Nat.le_of_ble_eq_true rfl, Nat.le_of_ble_eq_true rfl⟩ (by decide) zx_E1 rfl rfl hl.1 rfl (Nat.le_of_ble_eq_true rfl) dX8_feed_33) hS (fun H locs hW hS => ?_)
    refine lv_aload_n hx hb dX8_feed_36 rfl (lv_at hl 0 rfl) ?_
    refine zx_get (C := RX8) (T := TX8) (N := 11) F hW wu_X8 (by decide) zx_E0 rfl 0 (by decide) wf_X8_12 rfl dX8_feed_37 ?_
    refine lv_iload_n hx hb dX8_feed_40 rfl (lv_at hl 3 rfl) ?_
    refine lv_iconst (v := 4) hx hb dX8_feed_41 (by decide) ?_
    obtain ⟨r8, S9, h10, h⟩ := g_bd h
    refine zx_cv (zx_runV (q := (RX4, TX4, 2)) (As := [.int p2, .int (4 : Int32)]) (rest := []) F hW (c_X4_addNumber l D a cs fu 1 p2 (4 : Int32) (by decide) S6 r8 S9 h10) Y_X4_addNumber wi_X4_addNumber ws_X4_addNumber wm_X8_73 ⟨rfl, rfl, Nat.le_of_ble_eq_true rfl, Nat.le_of_ble_eq_true rfl, Nat.le_of_ble_eq_true rfl, Nat.le_of_ble_eq_true rfl⟩ (by decide) zx_E1 rfl rfl hl.1 rfl (Nat.le_of_ble_eq_true rfl) dX8_feed_42) hS (fun H locs hW hS => ?_)
    refine lv_aload_n hx hb dX8_feed_45 rfl (lv_at hl 0 rfl) ?_
    refine zx_get (C := RX8) (T := TX8) (N := 11) F hW wu_X8 (by decide) zx_E0 rfl 0 (by decide) wf_X8_12 rfl dX8_feed_46 ?_
    refine lv_iload hx hb dX8_feed_49 (lv_at hl 4 rfl) ?_
    refine lv_iconst (v := 4) hx hb dX8_feed_51 (by decide) ?_
    obtain ⟨r11, S12, h13, h⟩ := g_bd h
    refine zx_cv (zx_runV (q := (RX4, TX4, 2)) (As := [.int p3, .int (4 : Int32)]) (rest := []) F hW (c_X4_addNumber l D a cs fu 1 p3 (4 : Int32) (by decide) S9 r11 S12 h13) Y_X4_addNumber wi_X4_addNumber ws_X4_addNumber wm_X8_73 ⟨rfl, rfl, Nat.le_of_ble_eq_true rfl, Nat.le_of_ble_eq_true rfl, Nat.le_of_ble_eq_true rfl, Nat.le_of_ble_eq_true rfl⟩ (by decide) zx_E1 rfl rfl hl.1 rfl (Nat.le_of_ble_eq_true rfl) dX8_feed_52) hS (fun H locs hW hS => ?_)
    refine lv_aload_n hx hb dX8_feed_55 rfl (lv_at hl 0 rfl) ?_
    refine zx_get (C := RX8) (T := TX8) (N := 11) F hW wu_X8 (by decide) zx_E0 rfl 0 (by decide) wf_X8_12 rfl dX8_feed_56 ?_
    refine lv_iload hx hb dX8_feed_59 (lv_at hl 5 rfl) ?_
    refine lv_iconst (v := 4) hx hb dX8_feed_61 (by decide) ?_
    obtain ⟨r14, S15, h16, h⟩ := g_bd h
    refine zx_cv (zx_runV (q := (RX4, TX4, 2)) (As := [.int p4, .int (4 : Int32)]) (rest := []) F hW (c_X4_addNumber l D a cs fu 1 p4 (4 : Int32) (by decide) S12 r14 S15 h16) Y_X4_addNumber wi_X4_addNumber ws_X4_addNumber wm_X8_73 ⟨rfl, rfl, Nat.le_of_ble_eq_true rfl, Nat.le_of_ble_eq_true rfl, Nat.le_of_ble_eq_true rfl, Nat.le_of_ble_eq_true rfl⟩ (by decide) zx_E1 rfl rfl hl.1 rfl (Nat.le_of_ble_eq_true rfl) dX8_feed_62) hS (fun H locs hW hS => ?_)
    refine lv_aload_n hx hb dX8_feed_65 rfl (lv_at hl 0 rfl) ?_
    refine zx_get (C := RX8) (T := TX8) (N := 11) F hW wu_X8 (by decide) zx_E0 rfl 0 (by decide) wf_X8_12 rfl dX8_feed_66 ?_
    refine zx_get (C := RX4) (T := TX4) (N := 2) F hW wu_X4 (by decide) zx_E1 rfl 1 (by decide) wf_X8_70 rfl dX8_feed_69 ?_
    exact zx_ri F hr hW hS h dX8_feed_72
  · have h := g_f c1 h
    refine lv_iconst (v := -1) hx hb dX8_feed_16 (by decide) ?_
    exact zx_ri F hr hW hS h dX8_feed_17
theorem Y_X8_gone : zx_Y yX8_gone cX8_gone 2 (some (.int)) 1 := ⟨wc_X8_gone, wn_X8, by decide, by decide, by decide +kernel⟩
set_option maxHeartbeats 4000000 in
set_option maxRecDepth 100000 in
theorem c_X8_gone (l : Launch) (D : va_G) (a : Nat → Nat) (cs : zx_C) (p0 : Int32)  (S : St) (r9 : Int32) (S9 : St) (h : f_X8_gone p0 S = some (r9, S9)) : Met l yX8_gone (Cond.code yX8_gone cX8_gone 2 (some (.int)) :: zx_tb) ({ frames := 0, cells := 0, slots := 0, locals := 0 }) (zx_P D a cs [.ref (a 0), .int p0] S) (zx_Qi D a cs r9 S9) 0 0 (zx_A a) := by
  refine zx_met (own := RX8) (by decide) (Nat.le_of_ble_eq_true rfl) rfl ?_
  intro p e s m below meth c ls F hr hW hS hl
  have hl : lv_has ls 2 [(0, .ref (a 0)), (1, .int p0)] := hl
  obtain ⟨⟨hx, hb, hml, hown, hts⟩, hlk, hK, hJ, hN⟩ := id F
  unfold f_X8_gone at h
  refine lv_iload_n hx hb dX8_gone_0 rfl (lv_at hl 1 rfl) ?_
  refine lv_if_ne (tgt := 9) hx hb dX8_gone_1 (by decide) (fun c1 => ?_) (fun c1 => ?_)
  · have h := g_f c1 h
    refine lv_iload_n hx hb dX8_gone_9 rfl (lv_at hl 1 rfl) ?_
    refine lv_iconst (v := 1) hx hb dX8_gone_10 (by decide) ?_
    refine lv_icmp_ne (tgt := 21) hx hb dX8_gone_11 (by decide) (fun c2 => ?_) (fun c2 => ?_)
    · have h := g_f c2 h
      refine lv_iconst (v := -1) hx hb dX8_gone_21 (by decide) ?_
      exact zx_ri F hr hW hS h dX8_gone_22
    · have h := g_t c2 h
      refine lv_aload_n hx hb dX8_gone_14 rfl (lv_at hl 0 rfl) ?_
      refine zx_get (C := RX8) (T := TX8) (N := 11) F hW wu_X8 (by decide) zx_E0 rfl 10 (by decide) wf_X8_66 rfl dX8_gone_15 ?_
      refine lv_goto (tgt := 22) hx hb dX8_gone_18 (by decide) ?_
      exact zx_ri F hr hW hS h dX8_gone_22
  · have h := g_t c1 h
    refine lv_aload_n hx hb dX8_gone_4 rfl (lv_at hl 0 rfl) ?_
    refine zx_get (C := RX8) (T := TX8) (N := 11) F hW wu_X8 (by decide) zx_E0 rfl 9 (by decide) wf_X8_62 rfl dX8_gone_5 ?_
    exact zx_ri F hr hW hS h dX8_gone_8
theorem Y_X8_refusalOfTape : zx_Y yX8_refusalOfTape cX8_refusalOfTape 3 (some (.int)) 1 := ⟨wc_X8_refusalOfTape, wn_X8, by decide, by decide, by decide +kernel⟩
set_option maxHeartbeats 4000000 in
set_option maxRecDepth 100000 in
theorem k_X8_refusalOfTape_L18 {l : Launch} {D : va_G} {a : Nat → Nat} {cs : zx_C} {p : Program} {e : Env} {s : State} {m : MethodId} {below : List Frame} {meth : Method} {c : Code} {fu : Nat} {k0 : Nat} (hk0 : zx_tab k0 = true) (F : zx_F D a cs p m c cX8_refusalOfTape 3 s ([.ref (a 0), .ref (a k0)] : List Value).toArray RX8 meth) (hr : meth.sig.returnType = (some (.int))) {r9 : Int32} {S9 : St}    : ∀ (n : Nat) (v2 : Int32) (S : St), f_X8_refusalOfTape_L18 fu k0   n v2 S = some (r9, S9) → ∀ (H : Heap) (locs : List Loc) (ls : Array Slot), zx_W D a cs S H → va_S (zx_A a) s.heap H locs → lv_has ls 3 [(0, .ref (a 0)), (1, .ref (a k0)), (2, .int v2)] → W p l e ({ frames := 2, cells := 0, slots := 0, locals := 41 }) s m ([.ref (a 0), .ref (a k0)] : List Value).toArray below meth c H locs 0 0 (MQ below (zx_Qi D a cs r9 S9) ([.ref (a 0), .ref (a k0)] : List Value).toArray s 0 0 (zx_A a)) (F0 m 18 ls []) := by
  obtain ⟨⟨hx, hb, hml, hown, hts⟩, hlk, hK, hJ, hN⟩ := id F
  intro n
  induction n with
  | zero =>
    intro v2 S h
    exact absurd h (fun q => by cases q)
  | succ n ih =>
    intro v2 S h H locs ls hW hS hl
    rw [f_X8_refusalOfTape_L18_s] at h
    refine lv_iload_n hx hb dX8_refusalOfTape_18 rfl (lv_at hl 2 rfl) ?_
    refine lv_aload_n hx hb dX8_refusalOfTape_19 rfl (lv_at hl 0 rfl) ?_
    refine zx_get (C := RX8) (T := TX8) (N := 11) F hW wu_X8 (by decide) zx_E0 rfl 0 (by decide) wf_X8_12 rfl dX8_refusalOfTape_20 ?_
    refine zx_get (C := RX4) (T := TX4) (N := 2) F hW wu_X4 (by decide) zx_E1 rfl 1 (by decide) wf_X8_70 rfl dX8_refusalOfTape_23 ?_
    refine lv_icmp_ge (tgt := 53) hx hb dX8_refusalOfTape_26 (by decide) (fun c2 => ?_) (fun c2 => ?_)
    · have h := g_t c2 h
      refine lv_iconst (v := 0) hx hb dX8_refusalOfTape_53 (by decide) ?_
      exact zx_ri F hr hW hS h dX8_refusalOfTape_54
    · have h := g_f c2 h
      refine lv_aload_n hx hb dX8_refusalOfTape_29 rfl (lv_at hl 1 rfl) ?_
      refine lv_aload_n hx hb dX8_refusalOfTape_30 rfl (lv_at hl 0 rfl) ?_
      refine zx_get (C := RX8) (T := TX8) (N := 11) F hW wu_X8 (by decide) zx_E0 rfl 0 (by decide) wf_X8_12 rfl dX8_refusalOfTape_31 ?_
      refine lv_iload_n hx hb dX8_refusalOfTape_34 rfl (lv_at hl 2 rfl) ?_
      obtain ⟨r3, S4, h5, h⟩ := g_bd h
      refine zx_ci (zx_runV (q := (RX4, TX4, 2)) (As := [.int v2]) (rest := [.ref (a k0)]) F hW (c_X4_byteAt l D a cs 1 v2 (by decide) S r3 S4 h5) Y_X4_byteAt wi_X4_byteAt ws_X4_byteAt wm_X8_174 ⟨rfl, rfl, Nat.le_of_ble_eq_true rfl, Nat.le_of_ble_eq_true rfl, Nat.le_of_ble_eq_true rfl, Nat.le_of_ble_eq_true rfl⟩ (by decide) zx_E1 rfl rfl hl.1 rfl (Nat.le_of_ble_eq_true rfl) dX8_refusalOfTape_35) hS (fun H locs hW hS => ?_)
      obtain ⟨r6, S7, h8, h⟩ := g_bd h
      refine zx_ci (zx_runV (q := (RX6, TX6, 2)) (As := [.int r3]) (rest := []) F hW (c_X6_shareOf l D a cs k0 r3 hk0 S4 r6 S7 h8) Y_X6_shareOf wi_X6_shareOf ws_X6_shareOf wm_X8_113 ⟨rfl, rfl, Nat.le_of_ble_eq_true rfl, Nat.le_of_ble_eq_true rfl, Nat.le_of_ble_eq_true rfl, Nat.le_of_ble_eq_true rfl⟩ (zx_tab_l hk0).1 (zx_tab_E hk0) rfl rfl hl.1 rfl (Nat.le_of_ble_eq_true rfl) dX8_refusalOfTape_38) hS (fun H locs hW hS => ?_)
      refine lv_if_ne (tgt := 47) hx hb dX8_refusalOfTape_41 (by decide) (fun c9 => ?_) (fun c9 => ?_)
      · have h := g_f c9 h
        obtain ⟨x10, ex10, h⟩ := g_pin h
        refine lv_iinc (v := x10) (lv' := [(2, .int x10), (0, .ref (a 0)), (1, .ref (a k0))]) hx hb dX8_refusalOfTape_47 hl (k := 2) rfl (by rw [ex10]; rfl) (by decide) rfl (fun ls hl => ?_)
        refine lv_goto (tgt := 18) hx hb dX8_refusalOfTape_50 (by decide) ?_
        exact ih x10 S7 h _ _ _ hW hS (lv_sub hl [1, 2, 0] rfl)
      · have h := g_t c9 h
        refine lv_bipush (v := -3) hx hb dX8_refusalOfTape_44 (by decide) ?_
        exact zx_ri F hr hW hS h dX8_refusalOfTape_46
set_option maxHeartbeats 4000000 in
set_option maxRecDepth 100000 in
theorem c_X8_refusalOfTape (l : Launch) (D : va_G) (a : Nat → Nat) (cs : zx_C) (fu : Nat) (k0 : Nat) (hk0 : zx_tab k0 = true) (S : St) (r9 : Int32) (S9 : St) (h : f_X8_refusalOfTape fu k0 S = some (r9, S9)) : Met l yX8_refusalOfTape (Cond.code yX8_refusalOfTape cX8_refusalOfTape 3 (some (.int)) :: zx_tb) ({ frames := 2, cells := 0, slots := 0, locals := 41 }) (zx_P D a cs [.ref (a 0), .ref (a k0)] S) (zx_Qi D a cs r9 S9) 0 0 (zx_A a) := by
  refine zx_met (own := RX8) (by decide) (Nat.le_of_ble_eq_true rfl) rfl ?_
  intro p e s m below meth c ls F hr hW hS hl
  have hl : lv_has ls 3 [(0, .ref (a 0)), (1, .ref (a k0))] := hl
  obtain ⟨⟨hx, hb, hml, hown, hts⟩, hlk, hK, hJ, hN⟩ := id F
  unfold f_X8_refusalOfTape at h
  refine lv_aload_n hx hb dX8_refusalOfTape_0 rfl (lv_at hl 0 rfl) ?_
  refine zx_get (C := RX8) (T := TX8) (N := 11) F hW wu_X8 (by decide) zx_E0 rfl 0 (by decide) wf_X8_12 rfl dX8_refusalOfTape_1 ?_
  refine zx_get (C := RX4) (T := TX4) (N := 2) F hW wu_X4 (by decide) zx_E1 rfl 1 (by decide) wf_X8_70 rfl dX8_refusalOfTape_4 ?_
  refine lv_sipush (v := 1400) hx hb dX8_refusalOfTape_7 (by decide) ?_
  refine lv_icmp_le (tgt := 16) hx hb dX8_refusalOfTape_10 (by decide) (fun c1 => ?_) (fun c1 => ?_)
  · have h := g_t c1 h
    refine lv_iconst (v := 0) hx hb dX8_refusalOfTape_16 (by decide) ?_
    refine lv_istore_n (lv' := [(2, .int (0 : Int32)), (0, .ref (a 0)), (1, .ref (a k0))]) hx hb dX8_refusalOfTape_17 rfl hl (by decide) rfl (fun ls hl => ?_)
    exact k_X8_refusalOfTape_L18 hk0 F hr   fu (0 : Int32) S h _ _ _ hW hS (lv_sub hl [1, 2, 0] rfl)
  · have h := g_f c1 h
    refine lv_bipush (v := -2) hx hb dX8_refusalOfTape_13 (by decide) ?_
    exact zx_ri F hr hW hS h dX8_refusalOfTape_15
theorem Y_X8_ideal : zx_Y yX8_ideal cX8_ideal 5 (some (.int)) 1 := ⟨wc_X8_ideal, wn_X8, by decide, by decide, by decide +kernel⟩
set_option maxHeartbeats 4000000 in
set_option maxRecDepth 100000 in
theorem k_X8_ideal_L34 {l : Launch} {D : va_G} {a : Nat → Nat} {cs : zx_C} {p : Program} {e : Env} {s : State} {m : MethodId} {below : List Frame} {meth : Method} {c : Code} {fu : Nat} {p0 : Int32}  (F : zx_F D a cs p m c cX8_ideal 5 s ([.ref (a 0), .int p0] : List Value).toArray RX8 meth) (hr : meth.sig.returnType = (some (.int))) {r9 : Int32} {S9 : St}   {kt2 : Nat} (hkt2 : zx_tab kt2 = true) : ∀ (n : Nat) (v4 : Int32) (S : St), f_X8_ideal_L34 fu p0  kt2 n v4 S = some (r9, S9) → ∀ (H : Heap) (locs : List Loc) (ls : Array Slot), zx_W D a cs S H → va_S (zx_A a) s.heap H locs → lv_has ls 5 [(0, .ref (a 0)), (2, .ref (a kt2)), (4, .int v4)] → W p l e ({ frames := 3, cells := 0, slots := 0, locals := 63 }) s m ([.ref (a 0), .int p0] : List Value).toArray below meth c H locs 0 0 (MQ below (zx_Qi D a cs r9 S9) ([.ref (a 0), .int p0] : List Value).toArray s 0 0 (zx_A a)) (F0 m 34 ls []) := by
  obtain ⟨⟨hx, hb, hml, hown, hts⟩, hlk, hK, hJ, hN⟩ := id F
  intro n
  induction n with
  | zero =>
    intro v4 S h
    exact absurd h (fun q => by cases q)
  | succ n ih =>
    intro v4 S h H locs ls hW hS hl
    rw [f_X8_ideal_L34_s] at h
    refine lv_iload hx hb dX8_ideal_34 (lv_at hl 2 rfl) ?_
    refine lv_aload_n hx hb dX8_ideal_36 rfl (lv_at hl 0 rfl) ?_
    refine zx_get (C := RX8) (T := TX8) (N := 11) F hW wu_X8 (by decide) zx_E0 rfl 0 (by decide) wf_X8_12 rfl dX8_ideal_37 ?_
    refine zx_get (C := RX4) (T := TX4) (N := 2) F hW wu_X4 (by decide) zx_E1 rfl 1 (by decide) wf_X8_70 rfl dX8_ideal_40 ?_
    refine lv_icmp_ge (tgt := 72) hx hb dX8_ideal_43 (by decide) (fun c14 => ?_) (fun c14 => ?_)
    · have h := g_t c14 h
      refine lv_aload_n hx hb dX8_ideal_72 rfl (lv_at hl 1 rfl) ?_
      refine zx_get (C := RX6) (T := TX6) (N := 2) F hW wu_X6 (zx_tab_l hkt2).1 (zx_tab_E hkt2) rfl 1 (by decide) wf_X8_107 rfl dX8_ideal_73 ?_
      refine lv_aload_n hx hb dX8_ideal_76 rfl (lv_at hl 0 rfl) ?_
      refine zx_get (C := RX8) (T := TX8) (N := 11) F hW wu_X8 (by decide) zx_E0 rfl 0 (by decide) wf_X8_12 rfl dX8_ideal_77 ?_
      refine zx_get (C := RX4) (T := TX4) (N := 2) F hW wu_X4 (by decide) zx_E1 rfl 1 (by decide) wf_X8_70 rfl dX8_ideal_80 ?_
      refine lv_imul hx hb dX8_ideal_83 ?_
      refine lv_aload_n hx hb dX8_ideal_84 rfl (lv_at hl 0 rfl) ?_
      refine zx_get (C := RX8) (T := TX8) (N := 11) F hW wu_X8 (by decide) zx_E0 rfl 8 (by decide) wf_X8_58 rfl dX8_ideal_85 ?_
      obtain ⟨r15, S16, h17, h⟩ := g_bd h
      refine zx_ci (zx_runV (q := (RX3, TX3, 3)) (As := []) (rest := [.int ((S kt2 1) * (S 1 1))]) F hW (c_X3_highestBit l D a cs fu   S r15 S16 h17) Y_X3_highestBit wi_X3_highestBit ws_X3_highestBit wm_X8_186 ⟨rfl, rfl, Nat.le_of_ble_eq_true rfl, Nat.le_of_ble_eq_true rfl, Nat.le_of_ble_eq_true rfl, Nat.le_of_ble_eq_true rfl⟩ (by decide) zx_E41 rfl rfl hl.1 rfl (Nat.le_of_ble_eq_true rfl) dX8_ideal_88) hS (fun H locs hW hS => ?_)
      refine lv_isub hx hb dX8_ideal_91 ?_
      exact zx_ri F hr hW hS h dX8_ideal_92
    · have h := g_f c14 h
      refine lv_aload_n hx hb dX8_ideal_46 rfl (lv_at hl 0 rfl) ?_
      refine zx_get (C := RX8) (T := TX8) (N := 11) F hW wu_X8 (by decide) zx_E0 rfl 8 (by decide) wf_X8_58 rfl dX8_ideal_47 ?_
      refine lv_aload_n hx hb dX8_ideal_50 rfl (lv_at hl 1 rfl) ?_
      refine lv_aload_n hx hb dX8_ideal_51 rfl (lv_at hl 0 rfl) ?_
      refine zx_get (C := RX8) (T := TX8) (N := 11) F hW wu_X8 (by decide) zx_E0 rfl 0 (by decide) wf_X8_12 rfl dX8_ideal_52 ?_
      refine lv_iload hx hb dX8_ideal_55 (lv_at hl 2 rfl) ?_
      obtain ⟨r18, S19, h20, h⟩ := g_bd h
      refine zx_ci (zx_runV (q := (RX4, TX4, 2)) (As := [.int v4]) (rest := [.ref (a kt2), .ref (a 41)]) F hW (c_X4_byteAt l D a cs 1 v4 (by decide) S r18 S19 h20) Y_X4_byteAt wi_X4_byteAt ws_X4_byteAt wm_X8_174 ⟨rfl, rfl, Nat.le_of_ble_eq_true rfl, Nat.le_of_ble_eq_true rfl, Nat.le_of_ble_eq_true rfl, Nat.le_of_ble_eq_true rfl⟩ (by decide) zx_E1 rfl rfl hl.1 rfl (Nat.le_of_ble_eq_true rfl) dX8_ideal_57) hS (fun H locs hW hS => ?_)
      obtain ⟨r21, S22, h23, h⟩ := g_bd h
      refine zx_ci (zx_runV (q := (RX6, TX6, 2)) (As := [.int r18]) (rest := [.ref (a 41)]) F hW (c_X6_shareOf l D a cs kt2 r18 hkt2 S19 r21 S22 h23) Y_X6_shareOf wi_X6_shareOf ws_X6_shareOf wm_X8_113 ⟨rfl, rfl, Nat.le_of_ble_eq_true rfl, Nat.le_of_ble_eq_true rfl, Nat.le_of_ble_eq_true rfl, Nat.le_of_ble_eq_true rfl⟩ (zx_tab_l hkt2).1 (zx_tab_E hkt2) rfl rfl hl.1 rfl (Nat.le_of_ble_eq_true rfl) dX8_ideal_60) hS (fun H locs hW hS => ?_)
      obtain ⟨r24, S25, h26, h⟩ := g_bd h
      refine zx_cv (zx_runV (q := (RX3, TX3, 3)) (As := [.int r21]) (rest := []) F hW (c_X3_times l D a cs fu r21  S22 r24 S25 h26) Y_X3_times wi_X3_times ws_X3_times wm_X8_182 ⟨rfl, rfl, Nat.le_of_ble_eq_true rfl, Nat.le_of_ble_eq_true rfl, Nat.le_of_ble_eq_true rfl, Nat.le_of_ble_eq_true rfl⟩ (by decide) zx_E41 rfl rfl hl.1 rfl (Nat.le_of_ble_eq_true rfl) dX8_ideal_63) hS (fun H locs hW hS => ?_)
      obtain ⟨x27, ex27, h⟩ := g_pin h
      refine lv_iinc (v := x27) (lv' := [(4, .int x27), (0, .ref (a 0)), (2, .ref (a kt2))]) hx hb dX8_ideal_66 hl (k := 2) rfl (by rw [ex27]; rfl) (by decide) rfl (fun ls hl => ?_)
      refine lv_goto (tgt := 34) hx hb dX8_ideal_69 (by decide) ?_
      exact ih x27 S25 h _ _ _ hW hS (lv_sub hl [1, 2, 0] rfl)
set_option maxHeartbeats 4000000 in
set_option maxRecDepth 100000 in
theorem c_X8_ideal (l : Launch) (D : va_G) (a : Nat → Nat) (cs : zx_C) (fu : Nat) (p0 : Int32)  (S : St) (r9 : Int32) (S9 : St) (h : f_X8_ideal fu p0 S = some (r9, S9)) : Met l yX8_ideal (Cond.code yX8_ideal cX8_ideal 5 (some (.int)) :: zx_tb) ({ frames := 3, cells := 0, slots := 0, locals := 63 }) (zx_P D a cs [.ref (a 0), .int p0] S) (zx_Qi D a cs r9 S9) 0 0 (zx_A a) := by
  refine zx_met (own := RX8) (by decide) (Nat.le_of_ble_eq_true rfl) rfl ?_
  intro p e s m below meth c ls F hr hW hS hl
  have hl : lv_has ls 5 [(0, .ref (a 0)), (1, .int p0)] := hl
  obtain ⟨⟨hx, hb, hml, hown, hts⟩, hlk, hK, hJ, hN⟩ := id F
  unfold f_X8_ideal at h
  refine lv_aload_n hx hb dX8_ideal_0 rfl (lv_at hl 0 rfl) ?_
  refine lv_iload_n hx hb dX8_ideal_1 rfl (lv_at hl 1 rfl) ?_
  obtain ⟨r1, S2, h3, h⟩ := g_bd h
  refine zx_ca (zx_runV (q := (RX8, TX8, 11)) (As := [.int p0]) (rest := []) F hW (c_X8_tableOrNull l D a cs p0  S r1 S2 h3) Y_X8_tableOrNull wi_X8_tableOrNull ws_X8_tableOrNull wm_X8_103 ⟨rfl, rfl, Nat.le_of_ble_eq_true rfl, Nat.le_of_ble_eq_true rfl, Nat.le_of_ble_eq_true rfl, Nat.le_of_ble_eq_true rfl⟩ (by decide) zx_E0 rfl rfl hl.1 rfl (Nat.le_of_ble_eq_true rfl) dX8_ideal_2) hS (fun H locs hW hS => ?_)
  by_cases c4 : r1 = 0
  · have h := g_t c4 h
    rw [c4, zx_rfo_0]
    refine lv_astore_nN (lv' := [(2, .null), (0, .ref (a 0)), (1, .int p0)]) hx hb dX8_ideal_5 rfl hl (by decide) rfl (fun ls hl => ?_)
    refine lv_aload_nN hx hb dX8_ideal_6 rfl (lv_at hl 0 rfl) ?_
    refine lv_ifnonnullN hx hb dX8_ideal_7 ?_
    refine lv_iconst (v := -1) hx hb dX8_ideal_10 (by decide) ?_
    exact zx_ri F hr hW hS h dX8_ideal_11
  · have h := g_f c4 h
    obtain ⟨kt5, ekt5, h⟩ := g_pin h
    obtain ⟨hk6, h⟩ := g_ok h
    rw [zx_rfo_tab (by rw [← ekt5]; exact hk6), ← ekt5]
    refine lv_astore_n (lv' := [(2, .ref (a kt5)), (0, .ref (a 0)), (1, .int p0)]) hx hb dX8_ideal_5 rfl hl (by decide) rfl (fun ls hl => ?_)
    refine lv_aload_n hx hb dX8_ideal_6 rfl (lv_at hl 0 rfl) ?_
    refine lv_ifnonnull (tgt := 12) hx hb dX8_ideal_7 (by decide) ?_
    refine lv_aload_n hx hb dX8_ideal_12 rfl (lv_at hl 1 rfl) ?_
    refine lv_aload_n hx hb dX8_ideal_13 rfl (lv_at hl 0 rfl) ?_
    obtain ⟨r7, S8, h9, h⟩ := g_bd h
    refine zx_ci (zx_runV (q := (RX8, TX8, 11)) (As := [.ref (a kt5)]) (rest := []) F hW (c_X8_refusalOfTape l D a cs fu kt5 hk6 S2 r7 S8 h9) Y_X8_refusalOfTape wi_X8_refusalOfTape ws_X8_refusalOfTape wm_X8_134 ⟨rfl, rfl, Nat.le_of_ble_eq_true rfl, Nat.le_of_ble_eq_true rfl, Nat.le_of_ble_eq_true rfl, Nat.le_of_ble_eq_true rfl⟩ (by decide) zx_E0 rfl rfl hl.1 rfl (Nat.le_of_ble_eq_true rfl) dX8_ideal_14) hS (fun H locs hW hS => ?_)
    refine lv_istore_n (lv' := [(3, .int r7), (2, .ref (a kt5)), (0, .ref (a 0)), (1, .int p0)]) hx hb dX8_ideal_17 rfl hl (by decide) rfl (fun ls hl => ?_)
    refine lv_iload_n hx hb dX8_ideal_18 rfl (lv_at hl 0 rfl) ?_
    refine lv_if_eq (tgt := 24) hx hb dX8_ideal_19 (by decide) (fun c10 => ?_) (fun c10 => ?_)
    · have h := g_t c10 h
      refine lv_aload_n hx hb dX8_ideal_24 rfl (lv_at hl 2 rfl) ?_
      refine zx_get (C := RX8) (T := TX8) (N := 11) F hW wu_X8 (by decide) zx_E0 rfl 8 (by decide) wf_X8_58 rfl dX8_ideal_25 ?_
      obtain ⟨r11, S12, h13, h⟩ := g_bd h
      refine zx_cv (zx_runV (q := (RX3, TX3, 3)) (As := []) (rest := []) F hW (c_X3_clear l D a cs   S8 r11 S12 h13) Y_X3_clear wi_X3_clear ws_X3_clear wm_X8_179 ⟨rfl, rfl, Nat.le_of_ble_eq_true rfl, Nat.le_of_ble_eq_true rfl, Nat.le_of_ble_eq_true rfl, Nat.le_of_ble_eq_true rfl⟩ (by decide) zx_E41 rfl rfl hl.1 rfl (Nat.le_of_ble_eq_true rfl) dX8_ideal_28) hS (fun H locs hW hS => ?_)
      refine lv_iconst (v := 0) hx hb dX8_ideal_31 (by decide) ?_
      refine lv_istore (lv' := [(4, .int (0 : Int32)), (3, .int r7), (2, .ref (a kt5)), (0, .ref (a 0)), (1, .int p0)]) hx hb dX8_ideal_32 hl (by decide) rfl (fun ls hl => ?_)
      exact k_X8_ideal_L34  F hr  hk6 fu (0 : Int32) S12 h _ _ _ hW hS (lv_sub hl [3, 2, 0] rfl)
    · have h := g_f c10 h
      refine lv_iload_n hx hb dX8_ideal_22 rfl (lv_at hl 0 rfl) ?_
      exact zx_ri F hr hW hS h dX8_ideal_23
theorem Y_X8_layForPlace : zx_Y yX8_layForPlace cX8_layForPlace 5 (some (.boolean)) 3 := ⟨wc_X8_layForPlace, wn_X8, by decide, by decide, by decide +kernel⟩
set_option maxHeartbeats 4000000 in
set_option maxRecDepth 100000 in
theorem c_X8_layForPlace (l : Launch) (D : va_G) (a : Nat → Nat) (cs : zx_C) (fu : Nat) (p0 : Int32) (p1 : Int32) (p2 : Int32)  (S : St) (r9 : Int32) (S9 : St) (h : f_X8_layForPlace fu p0 p1 p2 S = some (r9, S9)) : Met l yX8_layForPlace (Cond.code yX8_layForPlace cX8_layForPlace 5 (some (.boolean)) :: zx_tb) ({ frames := 4, cells := 0, slots := 0, locals := 93 }) (zx_P D a cs [.ref (a 0), .int p0, .int p1, .int p2] S) (zx_Qi D a cs r9 S9) 0 0 (zx_A a) := by
  refine zx_met (own := RX8) (by decide) (Nat.le_of_ble_eq_true rfl) rfl ?_
  intro p e s m below meth c ls F hr hW hS hl
  have hl : lv_has ls 5 [(0, .ref (a 0)), (1, .int p0), (2, .int p1), (3, .int p2)] := hl
  obtain ⟨⟨hx, hb, hml, hown, hts⟩, hlk, hK, hJ, hN⟩ := id F
  unfold f_X8_layForPlace at h
  refine lv_aload_n hx hb dX8_layForPlace_0 rfl (lv_at hl 0 rfl) ?_
  refine lv_iload_n hx hb dX8_layForPlace_1 rfl (lv_at hl 1 rfl) ?_
  obtain ⟨r1, S2, h3, h⟩ := g_bd h
  refine zx_ca (zx_runV (q := (RX8, TX8, 11)) (As := [.int p0]) (rest := []) F hW (c_X8_tableOrNull l D a cs p0  S r1 S2 h3) Y_X8_tableOrNull wi_X8_tableOrNull ws_X8_tableOrNull wm_X8_103 ⟨rfl, rfl, Nat.le_of_ble_eq_true rfl, Nat.le_of_ble_eq_true rfl, Nat.le_of_ble_eq_true rfl, Nat.le_of_ble_eq_true rfl⟩ (by decide) zx_E0 rfl rfl hl.1 rfl (Nat.le_of_ble_eq_true rfl) dX8_layForPlace_2) hS (fun H locs hW hS => ?_)
  by_cases c4 : r1 = 0
  · have h := g_t c4 h
    rw [c4, zx_rfo_0]
    refine lv_astoreN (lv' := [(4, .null), (0, .ref (a 0)), (1, .int p0), (2, .int p1), (3, .int p2)]) hx hb dX8_layForPlace_5 hl (by decide) rfl (fun ls hl => ?_)
    refine lv_aloadN hx hb dX8_layForPlace_7 (lv_at hl 0 rfl) ?_
    refine lv_ifnullN (tgt := 32) hx hb dX8_layForPlace_9 (by decide) ?_
    refine lv_iconst (v := 0) hx hb dX8_layForPlace_32 (by decide) ?_
    exact zx_rz F hr (by decide) hW hS h dX8_layForPlace_33
  · have h := g_f c4 h
    obtain ⟨kt5, ekt5, h⟩ := g_pin h
    obtain ⟨hk6, h⟩ := g_ok h
    rw [zx_rfo_tab (by rw [← ekt5]; exact hk6), ← ekt5]
    refine lv_astore (lv' := [(4, .ref (a kt5)), (0, .ref (a 0)), (1, .int p0), (2, .int p1), (3, .int p2)]) hx hb dX8_layForPlace_5 hl (by decide) rfl (fun ls hl => ?_)
    refine lv_aload hx hb dX8_layForPlace_7 (lv_at hl 0 rfl) ?_
    refine lv_ifnull hx hb dX8_layForPlace_9 ?_
    refine lv_iload_n hx hb dX8_layForPlace_12 rfl (lv_at hl 3 rfl) ?_
    obtain ⟨r7, S8, h9, h⟩ := g_bd h
    refine zx_ci (zx_runS (As := [.int p1]) (rest := []) F hW (c_X8_isSpread l D a cs p1  S2 r7 S8 h9) Y_X8_isSpread wt_X8_isSpread wm_X8_215 ⟨rfl, rfl, Nat.le_of_ble_eq_true rfl, Nat.le_of_ble_eq_true rfl, Nat.le_of_ble_eq_true rfl, Nat.le_of_ble_eq_true rfl⟩ rfl hl.1 rfl (Nat.le_of_ble_eq_true rfl) dX8_layForPlace_13) hS (fun H locs hW hS => ?_)
    refine lv_if_eq (tgt := 32) hx hb dX8_layForPlace_16 (by decide) (fun c10 => ?_) (fun c10 => ?_)
    · have h := g_t c10 h
      refine lv_iconst (v := 0) hx hb dX8_layForPlace_32 (by decide) ?_
      exact zx_rz F hr (by decide) hW hS h dX8_layForPlace_33
    · have h := g_f c10 h
      refine lv_iload_n hx hb dX8_layForPlace_19 rfl (lv_at hl 4 rfl) ?_
      refine lv_if_lt (tgt := 32) hx hb dX8_layForPlace_20 (by decide) (fun c11 => ?_) (fun c11 => ?_)
      · have h := g_t c11 h
        refine lv_iconst (v := 0) hx hb dX8_layForPlace_32 (by decide) ?_
        exact zx_rz F hr (by decide) hW hS h dX8_layForPlace_33
      · have h := g_f c11 h
        refine lv_iload_n hx hb dX8_layForPlace_23 rfl (lv_at hl 4 rfl) ?_
        refine lv_aload hx hb dX8_layForPlace_24 (lv_at hl 0 rfl) ?_
        obtain ⟨r12, S13, h14, h⟩ := g_bd h
        refine zx_ci (zx_runV (q := (RX6, TX6, 2)) (As := []) (rest := [.int p2]) F hW (c_X6_places l D a cs kt5 hk6 S8 r12 S13 h14) Y_X6_places wi_X6_places ws_X6_places wm_X8_228 ⟨rfl, rfl, Nat.le_of_ble_eq_true rfl, Nat.le_of_ble_eq_true rfl, Nat.le_of_ble_eq_true rfl, Nat.le_of_ble_eq_true rfl⟩ (zx_tab_l hk6).1 (zx_tab_E hk6) rfl rfl hl.1 rfl (Nat.le_of_ble_eq_true rfl) dX8_layForPlace_26) hS (fun H locs hW hS => ?_)
        refine lv_icmp_lt (tgt := 34) hx hb dX8_layForPlace_29 (by decide) (fun c15 => ?_) (fun c15 => ?_)
        · have h := g_t c15 h
          refine lv_aload_n hx hb dX8_layForPlace_34 rfl (lv_at hl 1 rfl) ?_
          refine zx_get (C := RX8) (T := TX8) (N := 11) F hW wu_X8 (by decide) zx_E0 rfl 5 (by decide) wf_X8_40 rfl dX8_layForPlace_35 ?_
          refine zx_get (C := RX0) (T := TX0) (N := 8) F hW wu_X0 (by decide) zx_E8 rfl 0 (by decide) wf_X8_92 rfl dX8_layForPlace_38 ?_
          refine lv_aload hx hb dX8_layForPlace_41 (lv_at hl 0 rfl) ?_
          refine lv_iload_n hx hb dX8_layForPlace_43 rfl (lv_at hl 3 rfl) ?_
          obtain ⟨r16, S17, h18, h⟩ := g_bd h
          refine zx_cv (zx_runV (q := (RX5, TX5, 10)) (As := [.ref (a kt5), .int p1]) (rest := []) F hW (c_X5_lay l D a cs fu kt5 p1 hk6 S13 r16 S17 h18) Y_X5_lay wi_X5_lay ws_X5_lay wm_X8_231 ⟨rfl, rfl, Nat.le_of_ble_eq_true rfl, Nat.le_of_ble_eq_true rfl, Nat.le_of_ble_eq_true rfl, Nat.le_of_ble_eq_true rfl⟩ (by decide) zx_E9 rfl rfl hl.1 rfl (Nat.le_of_ble_eq_true rfl) dX8_layForPlace_44) hS (fun H locs hW hS => ?_)
          refine lv_iconst (v := 1) hx hb dX8_layForPlace_47 (by decide) ?_
          exact zx_rz F hr (by decide) hW hS h dX8_layForPlace_48
        · have h := g_f c15 h
          refine lv_iconst (v := 0) hx hb dX8_layForPlace_32 (by decide) ?_
          exact zx_rz F hr (by decide) hW hS h dX8_layForPlace_33
theorem Y_X8_learn : zx_Y yX8_learn cX8_learn 4 (some (.int)) 2 := ⟨wc_X8_learn, wn_X8, by decide, by decide, by decide +kernel⟩
set_option maxHeartbeats 4000000 in
set_option maxRecDepth 100000 in
theorem c_X8_learn (l : Launch) (D : va_G) (a : Nat → Nat) (cs : zx_C) (fu : Nat) (p0 : Int32) (p1 : Int32)  (S : St) (r9 : Int32) (S9 : St) (h : f_X8_learn fu p0 p1 S = some (r9, S9)) : Met l yX8_learn (Cond.code yX8_learn cX8_learn 4 (some (.int)) :: zx_tb) ({ frames := 4, cells := 0, slots := 0, locals := 93 }) (zx_P D a cs [.ref (a 0), .int p0, .int p1] S) (zx_Qi D a cs r9 S9) 0 0 (zx_A a) := by
  refine zx_met (own := RX8) (by decide) (Nat.le_of_ble_eq_true rfl) rfl ?_
  intro p e s m below meth c ls F hr hW hS hl
  have hl : lv_has ls 4 [(0, .ref (a 0)), (1, .int p0), (2, .int p1)] := hl
  obtain ⟨⟨hx, hb, hml, hown, hts⟩, hlk, hK, hJ, hN⟩ := id F
  unfold f_X8_learn at h
  refine lv_iload_n hx hb dX8_learn_0 rfl (lv_at hl 1 rfl) ?_
  obtain ⟨r1, S2, h3, h⟩ := g_bd h
  refine zx_ci (zx_runS (As := [.int p0]) (rest := []) F hW (c_X8_isTableNumber l D a cs p0  S r1 S2 h3) Y_X8_isTableNumber wt_X8_isTableNumber wm_X8_77 ⟨rfl, rfl, Nat.le_of_ble_eq_true rfl, Nat.le_of_ble_eq_true rfl, Nat.le_of_ble_eq_true rfl, Nat.le_of_ble_eq_true rfl⟩ rfl hl.1 rfl (Nat.le_of_ble_eq_true rfl) dX8_learn_1) hS (fun H locs hW hS => ?_)
  refine lv_if_eq (tgt := 14) hx hb dX8_learn_4 (by decide) (fun c4 => ?_) (fun c4 => ?_)
  · have h := g_t c4 h
    refine lv_iconst (v := -1) hx hb dX8_learn_14 (by decide) ?_
    exact zx_ri F hr hW hS h dX8_learn_15
  · have h := g_f c4 h
    refine lv_iload_n hx hb dX8_learn_7 rfl (lv_at hl 2 rfl) ?_
    obtain ⟨r5, S6, h7, h⟩ := g_bd h
    refine zx_ci (zx_runS (As := [.int p1]) (rest := []) F hW (c_X8_isLog l D a cs p1  S2 r5 S6 h7) Y_X8_isLog wt_X8_isLog wm_X8_81 ⟨rfl, rfl, Nat.le_of_ble_eq_true rfl, Nat.le_of_ble_eq_true rfl, Nat.le_of_ble_eq_true rfl, Nat.le_of_ble_eq_true rfl⟩ rfl hl.1 rfl (Nat.le_of_ble_eq_true rfl) dX8_learn_8) hS (fun H locs hW hS => ?_)
    refine lv_if_ne (tgt := 16) hx hb dX8_learn_11 (by decide) (fun c8 => ?_) (fun c8 => ?_)
    · have h := g_f c8 h
      refine lv_aload_n hx hb dX8_learn_16 rfl (lv_at hl 0 rfl) ?_
      refine zx_get (C := RX8) (T := TX8) (N := 11) F hW wu_X8 (by decide) zx_E0 rfl 0 (by decide) wf_X8_12 rfl dX8_learn_17 ?_
      refine zx_get (C := RX4) (T := TX4) (N := 2) F hW wu_X4 (by decide) zx_E1 rfl 1 (by decide) wf_X8_70 rfl dX8_learn_20 ?_
      refine lv_if_ne (tgt := 29) hx hb dX8_learn_23 (by decide) (fun c9 => ?_) (fun c9 => ?_)
      · have h := g_f c9 h
        refine lv_aload_n hx hb dX8_learn_29 rfl (lv_at hl 0 rfl) ?_
        obtain ⟨r10, S11, h12, h⟩ := g_bd h
        refine zx_ci (zx_runV (q := (RX8, TX8, 11)) (As := []) (rest := []) F hW (c_X8_countTape l D a cs fu   S6 r10 S11 h12) Y_X8_countTape wi_X8_countTape ws_X8_countTape wm_X8_84 ⟨rfl, rfl, Nat.le_of_ble_eq_true rfl, Nat.le_of_ble_eq_true rfl, Nat.le_of_ble_eq_true rfl, Nat.le_of_ble_eq_true rfl⟩ (by decide) zx_E0 rfl rfl hl.1 rfl (Nat.le_of_ble_eq_true rfl) dX8_learn_30) hS (fun H locs hW hS => ?_)
        refine lv_istore_n (lv' := [(3, .int r10), (0, .ref (a 0)), (1, .int p0), (2, .int p1)]) hx hb dX8_learn_33 rfl hl (by decide) rfl (fun ls hl => ?_)
        refine lv_iload_n hx hb dX8_learn_34 rfl (lv_at hl 0 rfl) ?_
        refine lv_iconst (v := 1) hx hb dX8_learn_35 (by decide) ?_
        refine lv_iload_n hx hb dX8_learn_36 rfl (lv_at hl 3 rfl) ?_
        refine lv_ishl hx hb dX8_learn_37 ?_
        refine lv_icmp_le (tgt := 44) hx hb dX8_learn_38 (by decide) (fun c13 => ?_) (fun c13 => ?_)
        · have h := g_t c13 h
          refine lv_aload_n hx hb dX8_learn_44 rfl (lv_at hl 1 rfl) ?_
          refine zx_get (C := RX8) (T := TX8) (N := 11) F hW wu_X8 (by decide) zx_E0 rfl 2 (by decide) wf_X8_21 rfl dX8_learn_45 ?_
          refine lv_iload_n hx hb dX8_learn_48 rfl (lv_at hl 2 rfl) ?_
          obtain ⟨c14, h⟩ := g_no h
          refine zx_aald F hW c14 dX8_learn_49 ?_
          obtain ⟨kt16, ekt16, h⟩ := g_pin h
          obtain ⟨hk15, h⟩ := g_ok h
          rw [zx_rfo_tab (by rw [← ekt16]; exact hk15), ← ekt16]
          refine lv_aload_n hx hb dX8_learn_50 rfl (lv_at hl 1 rfl) ?_
          refine zx_get (C := RX8) (T := TX8) (N := 11) F hW wu_X8 (by decide) zx_E0 rfl 3 (by decide) wf_X8_25 rfl dX8_learn_51 ?_
          refine lv_aload_n hx hb dX8_learn_54 rfl (lv_at hl 1 rfl) ?_
          refine zx_get (C := RX8) (T := TX8) (N := 11) F hW wu_X8 (by decide) zx_E0 rfl 0 (by decide) wf_X8_12 rfl dX8_learn_55 ?_
          refine zx_get (C := RX4) (T := TX4) (N := 2) F hW wu_X4 (by decide) zx_E1 rfl 1 (by decide) wf_X8_70 rfl dX8_learn_58 ?_
          refine lv_iload_n hx hb dX8_learn_61 rfl (lv_at hl 3 rfl) ?_
          obtain ⟨r17, S18, h19, h⟩ := g_bd h
          refine zx_cv (zx_runV (q := (RX6, TX6, 2)) (As := [.ref (a 6), .int (S11 1 1), .int p1]) (rest := []) F hW (c_X6_fit l D a cs fu kt16 (S11 1 1) p1 hk15 S11 r17 S18 h19) Y_X6_fit wi_X6_fit ws_X6_fit wm_X8_88 ⟨rfl, rfl, Nat.le_of_ble_eq_true rfl, Nat.le_of_ble_eq_true rfl, Nat.le_of_ble_eq_true rfl, Nat.le_of_ble_eq_true rfl⟩ (zx_tab_l hk15).1 (zx_tab_E hk15) rfl rfl hl.1 rfl (Nat.le_of_ble_eq_true rfl) dX8_learn_62) hS (fun H locs hW hS => ?_)
          refine lv_aload_n hx hb dX8_learn_65 rfl (lv_at hl 1 rfl) ?_
          refine zx_get (C := RX8) (T := TX8) (N := 11) F hW wu_X8 (by decide) zx_E0 rfl 5 (by decide) wf_X8_40 rfl dX8_learn_66 ?_
          refine zx_get (C := RX0) (T := TX0) (N := 8) F hW wu_X0 (by decide) zx_E8 rfl 0 (by decide) wf_X8_92 rfl dX8_learn_69 ?_
          obtain ⟨r20, S21, h22, h⟩ := g_bd h
          refine zx_cv (zx_runV (q := (RX5, TX5, 10)) (As := []) (rest := []) F hW (c_X5_forget l D a cs   S18 r20 S21 h22) Y_X5_forget wi_X5_forget ws_X5_forget wm_X8_98 ⟨rfl, rfl, Nat.le_of_ble_eq_true rfl, Nat.le_of_ble_eq_true rfl, Nat.le_of_ble_eq_true rfl, Nat.le_of_ble_eq_true rfl⟩ (by decide) zx_E9 rfl rfl hl.1 rfl (Nat.le_of_ble_eq_true rfl) dX8_learn_72) hS (fun H locs hW hS => ?_)
          refine lv_iload_n hx hb dX8_learn_75 rfl (lv_at hl 0 rfl) ?_
          exact zx_ri F hr hW hS h dX8_learn_76
        · have h := g_f c13 h
          refine lv_bipush (v := -3) hx hb dX8_learn_41 (by decide) ?_
          exact zx_ri F hr hW hS h dX8_learn_43
      · have h := g_t c9 h
        refine lv_bipush (v := -2) hx hb dX8_learn_26 (by decide) ?_
        exact zx_ri F hr hW hS h dX8_learn_28
    · have h := g_t c8 h
      refine lv_iconst (v := -1) hx hb dX8_learn_14 (by decide) ?_
      exact zx_ri F hr hW hS h dX8_learn_15
